import java.lang.reflect.Constructor;
import java.lang.reflect.Field;
import java.lang.reflect.Method;
import java.lang.reflect.Modifier;
import java.util.Arrays;

/** The sentences on extracting, inlining, states and errors: promises 14 to 20, the public face, and the limit of calls. */
public final class ChangeEdgeTest {
    private static final int NONE = Edges.NONE, BAD = Edges.BAD, NO = Edges.NO, FULL = Edges.FULL;

    private ChangeEdgeTest() {
    }

    private static void says(String words) {
        Edges.says(words);
    }

    private static String times(String part, int n) {
        return Edges.times(part, n);
    }

    /** All that can be asked about the program and its methods, without an error. */
    private static String shape(Probe x) {
        StringBuilder s = new StringBuilder();
        for (int k = 0; k < x.answer("told 4"); k++) {
            for (int what = 0; what <= 6; what++) {
                s.append(x.answer("statement " + k + " " + what)).append(' ');
            }
            for (int i = 0; i <= 12; i++) {
                s.append(x.answer("sign " + k + " " + i)).append(' ');
            }
            s.append("; ");
        }
        for (int m = 0; m < x.answer("told 5"); m++) {
            for (int what = 0; what <= 5; what++) {
                s.append(x.answer("method " + m + " " + what)).append(' ');
            }
            for (int i = 0; i <= 4; i++) {
                s.append(x.answer("formal " + m + " 0 " + i)).append(' ').append(x.answer("formal " + m + " 1 " + i)).append(' ');
            }
            s.append("| ");
        }
        return s.toString();
    }

    private static void same(String what, String got, String want) {
        Edges.due(what + ": " + got + " for " + want, got.equals(want) ? 1 : 0, 1);
    }

    /** The checksum of these numbers. */
    private static long sum(long... numbers) {
        long h = 2251;
        for (long v : numbers) {
            h = 31 * h + v;
        }
        return h;
    }

    private static void face() {
        says("public final class SpanLifts {");
        Class<?> c = SpanLifts.class;
        Edges.due("modifiers", c.getModifiers() & (Modifier.PUBLIC | Modifier.FINAL | Modifier.ABSTRACT), Modifier.PUBLIC | Modifier.FINAL);
        String[] calls = {"int type 1", "int clear 0", "int reads 0", "int statement 2", "int sign 2", "int runs 2", "int ran 2",
            "int span 3", "int hands 4", "int live 4", "int sure 2", "int alike 4", "int lifts 3", "int method 2", "int formal 3",
            "int settles 1", "int back 0", "int told 1", "long digest 0"};
        int found = 0;
        for (Method method : c.getDeclaredMethods()) {
            String call = method.getReturnType() + " " + method.getName() + " " + method.getParameterCount();
            boolean ints = Arrays.stream(method.getParameterTypes()).allMatch(type -> type == int.class);
            boolean isPublic = Modifier.isPublic(method.getModifiers()) && !Modifier.isStatic(method.getModifiers()) && ints;
            if (Arrays.asList(calls).contains(call) && isPublic) {
                found++;
            } else {
                Edges.due("private " + method, Modifier.isPrivate(method.getModifiers()) || method.isSynthetic() ? 1 : 0, 1);
            }
        }
        Edges.due("public methods", found, calls.length);
        Constructor<?>[] constructors = c.getDeclaredConstructors();
        Edges.due("constructors", constructors.length, 1);
        Edges.due("parameters of the constructor", constructors[0].getParameterCount(), 0);
        Edges.due("a public constructor", Modifier.isPublic(constructors[0].getModifiers()) ? 1 : 0, 1);

        says("public static final int NONE = -1, BAD = -2, NO = -3, FULL = -4;");
        String[] constants = {"NONE", "BAD", "NO", "FULL"};
        for (Field field : c.getDeclaredFields()) {
            boolean constant = Arrays.asList(constants).contains(field.getName());
            int wanted = constant ? Modifier.PUBLIC | Modifier.STATIC | Modifier.FINAL : Modifier.PRIVATE;
            Edges.due("modifiers of " + field, field.getModifiers() & (wanted | Modifier.PUBLIC | Modifier.PROTECTED), wanted);
        }
        for (int i = 0; i < constants.length; i++) {
            Edges.due(constants[i], constant(constants[i]), -1 - i);
        }

        says("An object is used for at most 512 calls after it has been made; what later calls answer is free.");
        Probe errors = new Probe();
        for (int n = 1; n <= 511; n++) {
            errors.due("told 7", BAD);
        }
        errors.due("told 0", 511);
        Probe changes = new Probe();
        for (int n = 1; n <= 3; n++) {
            changes.due("type '" + "#1;".charAt(n - 1) + "'", n);
        }
        for (int n = 4; n + 3 <= 511; n += 3) {
            changes.due("reads", 1).due("lifts 0 0 1", 1).due("settles 0", 1);
        }
        changes.due("told 6", 6);
        String[] cycle = {"lifts 0 0 1", "lifts 1 1 0", "settles 0", "lifts 0 0 0", "settles 1", "settles 0", "reads"};
        String[] after = new String[cycle.length];
        for (int turn = 0; turn <= 9; turn++) {
            for (int i = 0; i < cycle.length; i++) {
                Probe x = Probe.of("c=-ab;#+c1;d=-ba;?d{#1;}{}#+cd;");
                for (int n = 0; n < turn * cycle.length + i + 1; n++) {
                    x.answer(cycle[n % cycle.length]);
                }
                after[i] = turn == 0 ? shape(x) : after[i];
                same("turn " + turn + " of " + cycle[i], shape(x), after[i]);
            }
        }
        Probe runs = Probe.of("*1{#a;}");
        for (int n = 10; n <= 511; n++) {
            runs.due("runs 1 2", 4);
        }
        runs.due("ran 2 0", 200);
    }

    /** A constant as the class has it now, and not as it was when this test was compiled; 0 if there is none. */
    private static int constant(String name) {
        try {
            return SpanLifts.class.getField(name).getInt(null);
        } catch (ReflectiveOperationException missing) {
            return 0;
        }
    }

    private static void extracting() {
        says("To extract a span means: its statements become a new method, with the inputs, outputs and exits of the span, and a call"
            + " replaces them, with the same inputs and outputs.");
        Probe x = Probe.of("#1;*a{?b{!;}{^;}c=a;}#2;").due("span 2 5 0", 6).due("lifts 2 5 0", 1);
        x.due("told 4", 4).dues("statement 2", 7, 1, 0, 0, 0, NONE, 0).signs(2, "b>").dues("method 0", 6, 1, 0, 4, 1, 0);
        x.due("statement 1 2", 1).due("statement 3 3", 2).listed("formal 0 0", "b").listed("formal 0 1", "");
        Probe whole = Probe.of("?a{c=1;}{c=2;}<c;").due("lifts 0 3 0", 1).due("told 4", 1).due("told 5", 1).signs(0, "a>");
        whole.dues("method 0", 8, 1, 0, 4, 1, 0).dues("statement 0", 7, NONE, 0, 0, 0, NONE, 0);
        Probe inElse = Probe.of("c=0;?a{#1;}{#2;c=b;#3;}#c;").due("lifts 4 5 0", 1).due("told 4", 6).signs(4, "b>c").due("statement 1 2", 3);
        inElse.dues("statement 3", 1, 1, 0, 0, 1, NONE, NONE).dues("statement 4", 7, 1, 0, 1, 1, NONE, 0).due("statement 5 3", 2);
        Probe most = Probe.of("c=a;d=b;e=+a+b+cd;f=e;g=f;#+e+fg;").due("lifts 2 4 0", 1).signs(2, "abcd>efg");
        most.listed("formal 0 0", "abcd").listed("formal 0 1", "efg").dues("method 0", 1, 4, 3, 3, 1, 0);
        Probe all = Probe.of(times("#1;", 40)).due("lifts 0 39 0", 1).due("told 4", 1).dues("method 0", 1, 0, 0, 40, 1, 0);
        all.due("runs 0 0", 0).due("ran 2 0", 40).listed("formal 0 0", "").listed("formal 0 1", "");

        says("A\nspan that is alike is replaced by a call with its own inputs and outputs.");
        Probe y = Probe.of("c=-ab;d=*cc;#d;?a{e=-ba;f=*ee;#f;}").due("lifts 0 1 1", 2).signs(0, "ab>d").signs(3, "ba>f");
        y.dues("statement 3", 7, 2, 0, 0, 0, NONE, 0).dues("method 0", 1, 2, 1, 2, 2, 0).listed("formal 0 0", "ab").listed("formal 0 1", "d");
        y.due("runs 5 2", 0).due("ran 3 0", 9).due("ran 3 1", 9).due("ran 1 0", 7);
        Probe.of("#a;?b{}{#b;}#a;").due("lifts 2 2 1", 3).signs(0, "a>").signs(2, "b>").signs(3, "a>").dues("statement 2", 7, 1, 0, 0, 1, NONE, 0)
            .listed("formal 0 0", "b");
        Probe.of("*a{a=-a1;}*b{b=-b1;}#+ab;").due("lifts 2 2 1", 2).signs(0, "a>a").signs(1, "b>b").due("runs 3 4", 0).due("ran 3 0", 0);

        says("To inline a method means: each call of it is replaced by the statements that it had\nreplaced, and the method is removed;"
            + " the numbers of later methods decrease by 1.");
        String[] programs = {"c=-ab;d=*cc;#d;?a{e=-ba;f=*ee;#f;}", "?a{?b{}{}}{?a{?b{}{}}}?b{?a{}{}}", "*a{?b{!;}{^;}}*b{?a{!;}{^;}}",
            "#1;?a{#1;#1;}{#1;}#1;", "*a{a=-a1;}*b{b=-b1;}#+ab;"};
        String[] spans = {"0 1", "1 1", "1 1", "0 0", "0 0"};
        for (int i = 0; i < programs.length; i++) {
            Probe z = Probe.of(programs[i]);
            String before = shape(z);
            int likes = (int) z.answer("alike " + spans[i] + " 0 0");
            z.due("lifts " + spans[i] + " 1", 1 + likes).due("settles 0", 1 + likes).due("told 5", 0);
            same(programs[i], shape(z), before);
            z.due("alike " + spans[i] + " 0 0", likes);
        }
        Probe renamed = Probe.of("#a;#b;#1;").due("lifts 0 0 1", 2).due("lifts 2 2 0", 1).due("runs 4 5", 0).due("ran 3 0", 4).due("ran 3 1", 5);
        renamed.due("settles 1", 1).due("settles 0", 2).signs(0, "a").signs(1, "b");
        for (int m = 0; m < 3; m++) {
            Probe z = Probe.of("#1;#2;#2;#3;").due("lifts 0 0 0", 1).due("lifts 1 1 1", 2).due("lifts 3 3 0", 1);
            z.due("settles " + m, m == 1 ? 2 : 1).due("told 5", 2).due("method 2 0", BAD).due("settles 2", BAD);
            int[] methods = {0, 1, 1, 2};
            for (int k = 0; k < 4; k++) {
                z.due("statement " + k + " 6", methods[k] == m ? NONE : methods[k] > m ? methods[k] - 1 : methods[k]);
            }
            z.due("method 0 4", m == 0 ? 2 : 1).due("method 1 4", m == 2 ? 2 : 1).due("runs 0 0", 0).due("ran 3 0", 1).due("ran 3 3", 3);
        }
    }

    private static void states() {
        says("A method that is marked \"Change.\" stores the state before it, if it returns no error: the program and its methods.");
        Probe x = Probe.of("#1;#a;#b;").due("told 6", 1).due("reads", 3).due("told 6", 2).due("lifts 1 1 1", 2).due("told 6", 3);
        x.due("settles 0", 2).due("told 6", 4);
        for (String call : new String[] {"type 'a'", "clear", "statement 0 0", "sign 0 0", "runs 1 1", "ran 0 0", "span 0 0 0", "hands 0 0 0 0",
            "live 0 0 1 0", "sure 0 0", "alike 0 0 0 0", "method 0 0", "formal 0 0 0", "told 6", "digest"}) {
            x.answer(call);
            x.due("told 6", 4);
        }
        Probe y = Probe.of("#1;#c;").due("lifts 1 1 0", NO).due("lifts 0 0 2", BAD).due("lifts 1 0 0", NO).due("settles 0", BAD).due("told 6", 1);
        y.fault("}", 0).due("told 6", 1).due("lifts 0 0 0", 1).due("method 0 0", 1).due("formal 0 0 0", NONE).due("told 6", 2);
        y.due("settles 1", BAD).due("settles -1", BAD).due("told 6", 2).due("back", 1).due("told 5", 0).due("back", 0).due("told 4", 0);

        says("The last 6 stored states are kept; back() returns\nto the last one of them.");
        for (int n = 1; n <= 16; n++) {
            Probe z = new Probe();
            for (int i = 1; i <= n; i++) {
                z.takes(times("#1;", i), i).due("told 6", Math.min(i, 6));
            }
            for (int i = 1; i <= Math.min(n, 6); i++) {
                z.due("back", Math.min(n, 6) - i).due("told 4", n - i);
            }
            z.due("back", NO).due("told 4", Math.max(n - 6, 0)).due("told 6", 0);
        }
        methodsInStates();
    }

    /** States with methods, more of them than are kept: each must come back as it was. */
    private static void methodsInStates() {
        String[] changes = {"lifts 0 0 1", "lifts 1 1 1", "settles 0", "lifts 0 0 0", "settles 1", "lifts 8 8 0", "settles 0", "lifts 4 4 0", "settles 0"};
        for (int backs = 0; backs <= 6; backs++) {
            int left = changes.length - backs;
            Probe x = changed(changes, changes.length).due("told 6", 6);
            for (int n = 1; n <= backs; n++) {
                x.due("back", 6 - n);
            }
            same("the state after " + left + " changes", shape(x), shape(changed(changes, left)));
        }
    }

    private static Probe changed(String[] changes, int count) {
        Probe x = Probe.of("c=-ab;#c;?a{d=-ba;#d;}{#/1b;}*b{b=-b1;?b{!;}}");
        for (int i = 0; i < count; i++) {
            Edges.due(changes[i], Math.min(x.answer(changes[i]), 1), 1);
        }
        return x;
    }

    private static void errors() {
        says("BAD: an argument is out of its range, or there is no such statement or method.");
        Probe x = Probe.of("#1;");
        String[] bad = {"type 128", "type -1", "statement 1 0", "statement 0 7", "sign 1 0", "sign 0 -1", "ran 5 0", "ran 0 -1", "span 0 0 4",
            "hands 0 0 2 0", "live 0 0 3 0", "sure 1 0", "sure 0 8", "alike 0 0 3 0", "lifts 0 0 2", "method 0 0", "formal 0 0 0",
            "settles 0", "told 7"};
        for (int n = 0; n < bad.length; n++) {
            x.due(bad[n], BAD).errors(n + 1, 0, 0);
        }

        says("NO: there is no such span, or the call is not possible, as the method says.");
        Probe y = new Probe();
        String[] no = {"span 0 0 0", "hands 0 0 0 0", "live 0 0 1 0", "alike 0 0 0 0", "lifts 0 0 0", "back"};
        for (int n = 0; n < no.length; n++) {
            y.due(no[n], NO).errors(0, n + 1, 0);
        }
        y.takes("#c;", 1).due("lifts 0 0 0", NO).due("live 0 0 2 0", NO).errors(0, 8, 0);

        says("FULL: there\nis no room.");
        Probe z = Probe.of("#1;#2;#3;#4;" + times(" ", 148));
        z.due("type 'a'", FULL).errors(0, 0, 1).due("lifts 0 0 0", 1).due("lifts 1 1 0", 1).due("lifts 2 2 0", 1).due("lifts 3 3 0", FULL)
            .errors(0, 0, 2);

        says("If several apply, the first one in this order is returned; a call that returns one of them changes nothing, but it is counted.");
        z.due("type 128", BAD).due("type -1", BAD).due("lifts 3 3 2", BAD).due("lifts 0 0 2", BAD).due("lifts 4 3 2", BAD).errors(5, 0, 2);
        z.due("lifts 0 0 0", NO).due("lifts 4 3 0", NO).due("lifts 0 3 1", NO).errors(5, 3, 2);
        z.due("span 3 2 4", BAD).due("hands 3 2 2 0", BAD).due("hands 3 2 0 -1", BAD).due("live 3 2 3 0", BAD).due("live 3 2 1 8", BAD)
            .due("alike 3 2 3 0", BAD).due("alike 3 2 2 8", BAD).due("live 3 3 2 8", BAD).errors(13, 3, 2);
        refusedCalls();

        says("For any ints i and j that\nare not a span, the error is NO.");
        Probe w = Probe.of("?a{#1;}{#2;}#3;");
        String[] pairs = {"1 2", "2 1", "0 1", "0 2", "1 3", "3 0", "4 4", "0 4", "-1 0", "0 -1", "-1 -1", "MIN MIN", "MAX MAX", "MIN MAX",
            "MAX MIN", "0 MAX", "0 MIN", "MIN 0", "MAX 0", "40 40", "39 39", "41 41"};
        for (String pair : pairs) {
            w.due("span " + pair + " 0", NO).due("hands " + pair + " 0 0", NO).due("live " + pair + " 1 0", NO).due("alike " + pair + " 0 0", NO)
                .due("lifts " + pair + " 0", NO).due("lifts " + pair + " 1", NO);
        }
        w.errors(0, pairs.length * 6, 0);

        says("NONE (-1) is not an error; it means that there is no such thing, and is returned only if no error applies.");
        Probe v = Probe.of("#1;#2;").due("lifts 1 1 0", 1);
        v.due("statement 0 1", NONE).due("sign 0 1", NONE).due("hands 0 0 0 0", NONE).due("alike 0 0 1 0", NONE).due("alike 0 0 2 0", NONE)
            .due("formal 0 0 0", NONE).due("formal 0 1 0", NONE).errors(0, 0, 0);
        v.due("statement 2 1", BAD).due("sign 2 9", BAD).due("hands 1 0 0 9", NO).due("alike 1 0 1 9", NO).due("alike 1 0 2 7", NO)
            .due("formal 1 0 9", BAD).due("formal 0 2 9", BAD).due("hands 0 0 2 9", BAD).errors(5, 3, 0);

        says("Sets are bit masks: bit v\nstands for variable v.");
        for (int u = 0; u < 8; u++) {
            char c = (char) ('a' + u);
            Probe.of("#" + c + ";").due("span 0 0 1", 1 << u).due("span 0 0 2", 0);
            Probe.of(c + "=1;#" + c + ";").due("span 0 0 2", 1 << u).due("span 0 0 1", 0).due("runs 0 0", 0).due("ran 4 0", 3 | 1 << u);
        }
    }

    /** Each call with each of its errors: it must leave all as it was, but for the count of this error. */
    private static void refusedCalls() {
        String[][] refused = {
            {"type 128", "type -1", "statement 4 0", "statement 0 7", "sign 4 0", "sign 0 -1", "ran 5 0", "ran 0 -1", "span 0 0 4", "hands 0 0 2 0",
                "hands 0 0 0 -1", "live 0 0 3 0", "live 0 0 1 8", "sure 4 0", "sure 0 8", "alike 0 0 3 0", "alike 0 0 0 -1", "alike 0 0 2 8",
                "lifts 3 3 2", "method 3 0", "method 0 6", "formal 3 0 0", "formal 0 2 0", "formal 0 0 -1", "settles 3", "settles -1", "told 7"},
            {"span 4 4 0", "hands 4 4 0 0", "live 4 4 1 0", "live 3 3 2 0", "alike 4 4 0 0", "lifts 4 4 0", "lifts 4 4 1", "lifts 0 0 0"},
            {"type 'a'", "lifts 3 3 0", "lifts 3 3 1"}};
        String before = everything(withMethods());
        for (int error = 0; error < refused.length; error++) {
            for (String call : refused[error]) {
                Probe x = withMethods().due(call, BAD - error).errors(error == 0 ? 1 : 0, error == 1 ? 1 : 0, error == 2 ? 1 : 0);
                same("after " + call, everything(x), before);
            }
        }
        new Probe().due("back", NO).errors(0, 1, 0).dues("told", 0, 1, 0, 0, 0, 0, 0);
    }

    /** An object with a full text, three methods and results of a run. */
    private static Probe withMethods() {
        Probe x = Probe.of("#1;#b;#a;#4;" + times(" ", 148));
        for (String call : new String[] {"runs 5 6", "lifts 0 0 0", "lifts 1 1 0", "lifts 2 2 0"}) {
            x.answer(call);
        }
        return x;
    }

    /** Also what the text and the stored states are, and the results of the latest run. */
    private static String everything(Probe x) {
        StringBuilder s = new StringBuilder(shape(x));
        for (String call : new String[] {"told 3", "told 4", "told 5", "told 6", "ran 0 0", "ran 1 0", "ran 2 0", "ran 3 0", "ran 3 1", "ran 3 3",
            "ran 4 0", "back", "told 5", "back", "told 5", "reads", "told 6", "back", "told 4"}) {
            s.append(x.answer(call)).append(' ');
        }
        return s.toString();
    }

    private static void liftCalls() {
        says("`all`: 1 if the spans that alike() finds are replaced, too, otherwise 0");
        Probe.of("#a;#b;#1;").due("lifts 0 0 0", 1).due("statement 1 0", 1).due("method 0 4", 1);
        Probe.of("#a;#b;#1;").due("lifts 0 0 1", 2).due("statement 1 0", 7).due("statement 2 0", 1).due("method 0 4", 2);
        Probe.of("#a;#b;#1;").due("alike 0 0 0 0", 1).due("lifts 0 0 0", 1).due("statement 1 0", 1);
        Probe.of("#1;").due("lifts 0 0 2", BAD).due("lifts 0 0 -1", BAD).due("lifts 0 0 MIN", BAD).due("lifts 0 0 MAX", BAD).errors(4, 0, 0)
            .due("told 5", 0).due("told 6", 1);

        says("Returns the number of calls that have been made; BAD if all is out of range; NO if there is no such span, or it is barred;"
            + " FULL if there are 3 methods.");
        Probe.of(times("#1;", 40)).due("lifts 39 39 1", 40).due("told 4", 40).due("method 0 4", 40).due("settles 0", 40);
        Probe.of(times("#1;", 5)).due("lifts 1 2 1", 2).due("told 4", 3).due("statement 0 0", 1).due("statement 1 0", 7).due("statement 2 0", 7);
        Probe.of("#c;").due("lifts 0 0 0", NO).due("lifts 0 0 1", NO);
        Probe.of("c=1;d=1;e=1;#+a+b+c+de;").due("lifts 3 3 0", NO);
        Probe.of("c=1;d=1;e=1;f=1;#+c+d+ef;").due("lifts 0 3 1", NO).due("lifts 0 2 1", 1);
        Probe x = Probe.of("#1;#2;#3;#4;#c;").due("lifts 0 0 0", 1).due("lifts 0 0 0", NO).due("lifts 1 1 0", 1).due("lifts 2 2 0", 1);
        x.due("lifts 3 3 0", FULL).due("lifts 3 3 1", FULL).due("lifts 4 4 0", NO).due("lifts 2 3 0", NO).due("lifts 5 5 0", NO).due("lifts 3 3 2", BAD);
        x.errors(1, 4, 2).due("told 6", 4).due("told 5", 3).due("settles 1", 1).due("lifts 3 3 0", 1).due("statement 3 6", 2).due("lifts 1 1 0", FULL);
        x.due("back", 5).due("lifts 1 1 0", 1).due("lifts 3 3 0", FULL);
    }

    private static void methodCalls() {
        says("`what`: 0: the sum of its exits; 1: the number of inputs; 2: the number of outputs; 3: the number of its statements, those inside"
            + " of others included; 4: the number of calls of it in the program;");
        Probe.of("*1{?a{!;}?b{^;}?1{<1;}}").due("lifts 1 5 0", 1).dues("method 0", 15, 2, 0, 6, 1, 0);
        Probe.of("#1;").due("lifts 0 0 0", 1).dues("method 0", 1, 0, 0, 1, 1, 0);
        Probe.of("<1;#1;").due("lifts 0 1 0", 1).dues("method 0", 8, 0, 0, 2, 1, 0);
        Probe.of("c=a;d=b;e=+a+b+cd;f=e;g=f;#+e+fg;").due("lifts 2 4 0", 1).dues("method 0", 1, 4, 3, 3, 1, 0);
        Probe x = Probe.of("#a;?a{#b;#a;}{#1;}").due("lifts 4 4 1", 1).due("lifts 0 0 1", 3).dues("method 0", 1, 0, 0, 1, 1, 0)
            .dues("method 1", 1, 1, 0, 1, 3, 0);
        x.due("settles 0", 1).due("method 0 4", 3).due("back", 3).due("method 0 4", 1);

        says("5: 1 if it contains a / or % whose second operand is not a digit from 1 to 9, else 0");
        String[] risky = {"#/a0;", "#%a0;", "#/ab;", "#%1a;", "#/a+11;", "#/1*11;", "#%4/12;", "#+1/ab;", "#/ /a2b;", "?1{#1;}{#/a0;}", "*/1a{}",
            "#/1/1/1/1/10;", "?1{#1;#/a2;#%aa;}", "#/+ab0;"};
        String[] safe = {"#/a1;", "#%a9;", "#/+ab5;", "#+0/a3;", "#//a12;", "#%+1/a23;", "#-a0;", "#0;", "?0{#/a7;}", "#*a0;", "</a9;",
            "#<0=a0;"};
        for (String program : risky) {
            Probe.of(program).due("lifts 0 0 0", 1).due("method 0 5", 1);
        }
        for (String program : safe) {
            Probe.of(program).due("lifts 0 0 0", 1).due("method 0 5", 0);
        }
        for (int digit = 0; digit <= 9; digit++) {
            Probe.of("#/a" + digit + ";").due("lifts 0 0 0", 1).due("method 0 5", digit == 0 ? 1 : 0);
            Probe.of("#%a" + digit + ";").due("lifts 0 0 0", 1).due("method 0 5", digit == 0 ? 1 : 0);
        }
        Probe.of("#/ab;#1;").due("lifts 1 1 0", 1).due("method 0 5", 0);

        says("Returns the property; BAD if there is no such method, or what is out of range.");
        Probe y = Probe.of("#1;#2;").due("method 0 0", BAD).due("lifts 0 0 0", 1).due("method 0 0", 1).due("method 1 0", BAD);
        y.due("method -1 0", BAD).due("method MAX 0", BAD).due("method MIN 0", BAD).due("method 0 -1", BAD).due("method 0 6", BAD)
            .due("method 0 MAX", BAD).due("method 0 MIN", BAD).due("method 3 6", BAD).errors(10, 0, 0);
        y.due("back", 1).due("method 0 0", BAD);
    }

    private static void formalCalls() {
        says("Returns an input or output of a method.");
        Probe x = Probe.of("d=a;c=+db;h=c;#+ch;?a{e=a;f=+eb;g=f;#+fg;}").due("lifts 1 2 1", 2);
        x.listed("formal 0 0", "db").listed("formal 0 1", "ch").signs(1, "db>ch").signs(4, "a").signs(5, "eb>fg");

        says("`what`: 0: inputs; 1: outputs");
        x.due("formal 0 0 0", 3).due("formal 0 1 0", 2).due("formal 0 2 0", BAD).due("formal 0 -1 0", BAD).due("formal 0 MAX 0", BAD)
            .due("formal 0 MIN 0", BAD).errors(4, 0, 0);

        says("`k`: the index, 0 or greater");
        x.due("formal 0 0 0", 3).due("formal 0 0 1", 1).due("formal 0 0 -1", BAD).due("formal 0 1 -1", BAD).due("formal 0 1 MIN", BAD).errors(7, 0, 0);

        says("Returns the variable; NONE if there are not so many; BAD if there is no such method, what is out of range, or k is negative.");
        x.due("formal 0 0 2", NONE).due("formal 0 1 2", NONE).due("formal 0 0 MAX", NONE).due("formal 0 1 MAX", NONE).errors(7, 0, 0);
        x.due("formal 1 0 0", BAD).due("formal -1 0 0", BAD).due("formal MAX 0 0", BAD).due("formal MIN 0 0", BAD).due("formal 3 2 -1", BAD)
            .due("formal 1 0 9", BAD).errors(13, 0, 0);
        new Probe().due("formal 0 0 0", BAD).due("formal 0 0 9", BAD);
        Probe.of("#1;").due("lifts 0 0 0", 1).due("formal 0 0 0", NONE).due("formal 0 1 0", NONE).due("back", 1).due("formal 0 0 0", BAD);
    }

    private static void settleCalls() {
        says("Inlines a method.");
        Probe x = Probe.of("#a;#b;#1;").due("lifts 0 0 1", 2).due("settles 0", 2).due("told 4", 3).due("told 5", 0).signs(0, "a").signs(1, "b");
        x.due("told 6", 3);

        says("Returns the number of calls that were replaced; BAD if there is no such method.");
        x.due("settles 0", BAD).due("settles -1", BAD).due("settles MAX", BAD).due("settles MIN", BAD).due("settles 3", BAD).errors(5, 0, 0);
        x.due("told 6", 3).due("back", 2).due("settles 1", BAD).due("settles 0", 2).due("told 6", 3);
        Probe.of(times("#1;", 40)).due("lifts 0 39 0", 1).due("told 4", 1).due("settles 0", 1).due("told 4", 40);
        Probe.of(times("#1;", 40)).due("lifts 0 1 1", 20).due("told 4", 20).due("settles 0", 20).due("told 4", 40).due("statement 39 3", 39);
        new Probe().due("settles 0", BAD);
    }

    private static void backCalls() {
        says("Returns to the last stored state, which is not stored any more then.");
        Probe x = Probe.of("#1;").takes("#1;#2;", 2).due("back", 1).due("told 4", 1).due("told 6", 1);
        x.takes("#1;#2;#3;", 3).due("told 6", 2).due("back", 1).due("told 4", 1).due("back", 0).due("told 4", 0);
        x.due("back", NO).due("told 4", 0).takes("#1;", 1).due("told 6", 1).due("back", 0).due("back", NO);
        Probe known = Probe.of("c=1;#c;").due("sure 1 2", 1).takes("#1;#c;", 2).due("sure 1 2", 0).due("back", 1).due("sure 1 2", 1);
        known.due("lifts 0 1 0", 1).due("span 0 0 3", 1).due("back", 1).due("span 0 0 3", 0).due("span 0 0 2", 4);

        says("(The text, the results of the latest run and the counts of errors stay.)");
        Probe y = Probe.of("#7;<8;").due("told 9", BAD).due("span 9 9 0", NO).due("runs 1 2", 1).takes("", 0).typed("##").due("back", 1);
        y.due("told 3", 2).due("ran 0 0", 8).due("ran 1 0", 2).due("ran 2 0", 1).due("ran 3 0", 7).due("ran 4 0", 3).errors(1, 1, 0);
        y.due("reads", -11).due("back", 0).due("told 3", 2).due("ran 0 0", 8).due("back", NO).errors(1, 2, 0).due("told 3", 2).due("ran 3 0", 7);

        says("Returns how many states are still stored; NO if there is none.");
        Probe z = new Probe().due("back", NO).due("back", NO).errors(0, 2, 0);
        for (int n = 1; n <= 7; n++) {
            z.takes("", 0);
        }
        for (int n = 5; n >= 0; n--) {
            z.due("told 6", n + 1).due("back", n);
        }
        z.due("back", NO).due("told 6", 0).errors(0, 3, 0);
    }

    private static void toldCalls() {
        says("`what`: 0, 1, 2: how often BAD, NO, FULL has been returned; 3: the length of the text; 4: the number of statements of the program;"
            + " 5: the number of methods; 6: the number of stored states");
        Probe x = Probe.of("#1;#2;#3;#4;").dues("told", 0, 0, 0, 12, 4, 0, 1);
        x.due("lifts 0 1 0", 1).due("lifts 1 1 0", 1).due("lifts 2 2 0", 1).dues("told", 0, 0, 0, 12, 3, 3, 4);
        x.due("type 200", BAD).due("type 200", BAD).due("type 200", BAD).due("span 5 5 0", NO).due("lifts 0 0 0", NO).dues("told", 3, 2, 0, 12, 3, 3, 4);
        x.typed(times(" ", 160)).due("type 1", FULL).dues("told", 3, 2, 1, 160, 3, 3, 4).due("settles 0", 1).dues("told", 3, 2, 1, 160, 4, 2, 5);

        says("Returns that number; BAD if what is out of range.");
        x.due("told 7", BAD).due("told -1", BAD).due("told MAX", BAD).due("told MIN", BAD).dues("told", 7, 2, 1, 160, 4, 2, 5);
        new Probe().due("told 7", BAD).due("told 0", 1).due("told 0", 1);
    }

    private static void digests() {
        says("It starts with h = 2251, and for each number v, in the order below, sets h = 31 * h + v in long arithmetic, which wraps.");
        new Probe().due("digest", sum(0, 0, 0, 0, 0, 0, 0)).due("digest", 2251L * 31 * 31 * 31 * 31 * 31 * 31 * 31).dues("told", 0, 0, 0, 0, 0, 0, 0);
        Probe.of("#1;").due("digest", sum(0, 0, 0, 3, 1, 0, 1, 1, -1, 0, 0, 0, -1, -1, '1')).due("told 6", 1);
        Probe refused = new Probe();
        for (int n = 1; n <= 300; n++) {
            refused.due("told 7", BAD);
        }
        refused.due("digest", sum(300, 0, 0, 0, 0, 0, 0));

        says("The numbers are: told(0) to told(6); for each statement of the program statement() for 0 to 6, and then its symbols as returned by"
            + " sign(); for each method method() for 0 to\n5.");
        Probe x = Probe.of("*a{!;}#b;").due("told 9", BAD).due("back", 0).due("back", NO).due("back", NO).typed("c=/ab;#c;#1;").due("reads", 3);
        x.due("lifts 2 2 0", 1).due("lifts 0 0 0", 1);
        long[] numbers = {1, 2, 0, 12, 3, 2, 3, 7, -1, 0, 0, 0, -1, 1, 'a', 'b', '>', 'c', 1, -1, 0, 1, 0, -1, -1, 'c', 7, -1, 0, 2, 0, -1, 0, '>',
            1, 0, 0, 1, 1, 0, 1, 2, 1, 1, 1, 1};
        x.due("digest", sum(numbers)).due("digest", sum(numbers));
        x.takes("?a{}{*b{!;}}", 3).due("digest", sum(1, 2, 0, 12, 3, 0, 4, 5, -1, 2, 0, 0, -1, -1, 'a', 6, 0, 1, 0, 1, -1, -1, 'b',
            3, 1, 0, 0, 0, -1, -1));
        Probe full = Probe.of(times("#b;", 40)).due("lifts 0 0 1", 40);
        long[] many = new long[7 + 40 * 9 + 6];
        System.arraycopy(new long[] {0, 0, 0, 120, 40, 1, 2}, 0, many, 0, 7);
        for (int k = 0; k < 40; k++) {
            System.arraycopy(new long[] {7, -1, 0, k, 0, -1, 0, 'b', '>'}, 0, many, 7 + 9 * k, 9);
        }
        System.arraycopy(new long[] {1, 1, 0, 1, 40, 0}, 0, many, 7 + 40 * 9, 6);
        full.due("digest", sum(many)).errors(0, 0, 0).due("told 6", 2);
    }

    public static void main(String[] args) {
        face();
        extracting();
        states();
        errors();
        liftCalls();
        methodCalls();
        formalCalls();
        settleCalls();
        backCalls();
        toldCalls();
        digests();
        Edges.finish();
    }
}
