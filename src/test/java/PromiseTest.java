/** Each promise of the document: ordinary inputs, the edges that it names, and wrong inputs. */
public final class PromiseTest {
    private static final int NONE = -1, BAD = -2, NO = -3, FULL = -4;
    private static final int MIN = Integer.MIN_VALUE, MAX = Integer.MAX_VALUE;
    private static int wrong = 0;
    private static int checked = 0;

    private static void due(String what, long got, long want) {
        checked++;
        if (got != want) {
            wrong++;
            System.out.println(what + " answered " + got + ", due is " + want);
        }
    }

    private static void type(SpanLifts x, String text) {
        x.clear();
        for (char c : text.toCharArray()) x.type(c);
    }

    private static int read(SpanLifts x, String text) {
        type(x, text);
        return x.reads();
    }

    /** A new object with this program. */
    private static SpanLifts of(String text) {
        SpanLifts x = new SpanLifts();
        if (read(x, text) < 0) due("reads() of " + text, -1, 0);
        return x;
    }

    private static String times(String part, int n) {
        StringBuilder s = new StringBuilder();
        for (int i = 0; i < n; i++) s.append(part);
        return s.toString();
    }

    private static void fault(String text, int at) {
        SpanLifts x = of("a=1;");
        due("reads() of \"" + text + "\"", read(x, text), -10 - at);
        due("statements after a fault", x.told(4), 1);
        due("stored states after a fault", x.told(6), 1);
        due("errors after a fault", x.told(0) + x.told(1) + x.told(2), 0);
    }

    private static void newObject() {
        SpanLifts x = new SpanLifts();
        for (int what = 0; what <= 6; what++) due("new: told(" + what + ")", x.told(what), 0);
        for (int what = 0; what <= 4; what++) due("new: ran(" + what + ", 0)", x.ran(what, 0), 0);
        due("new: statement(0, 0)", x.statement(0, 0), BAD);
        due("new: span(0, 0, 0)", x.span(0, 0, 0), NO);
        due("new: method(0, 0)", x.method(0, 0), BAD);
        due("new: back()", x.back(), NO);
        due("new: runs(1, 2)", x.runs(1, 2), 0);
        due("new: set variables", x.ran(4, 0), 3);
        due("new: steps", x.ran(1, 0), 0);
        due("NONE", SpanLifts.NONE, NONE);
        due("BAD", SpanLifts.BAD, BAD);
        due("NO", SpanLifts.NO, NO);
        due("FULL", SpanLifts.FULL, FULL);
    }

    private static void typing() {
        SpanLifts x = new SpanLifts();
        due("type(-1)", x.type(-1), BAD);
        due("type(128)", x.type(128), BAD);
        due("type(MIN)", x.type(MIN), BAD);
        due("type(0)", x.type(0), 1);
        due("type(127)", x.type(127), 2);
        for (int n = 3; n <= 160; n++) due("type(32)", x.type(32), n);
        due("type(32) when full", x.type(32), FULL);
        due("type(128) when full", x.type(128), BAD);
        due("told(0)", x.told(0), 4);
        due("told(2)", x.told(2), 1);
        due("told(3)", x.told(3), 160);
        due("clear()", x.clear(), 160);
        due("clear() again", x.clear(), 0);
        due("told(3) after clear()", x.told(3), 0);
        due("type(97) after clear()", x.type(97), 1);
    }

    private static void reading() {
        SpanLifts x = of(" a = + 1 b ; ");
        due("statements", x.told(4), 1);
        due("the text stays", x.told(3), 13);
        due("reads() again", x.reads(), 1);
        due("states", x.told(6), 2);
        due("reads() of nothing", read(x, ""), 0);
        due("reads() of blanks", read(x, "   "), 0);
        due("states", x.told(6), 4);
        due("empty blocks", read(x, "?1{}{}*0{}"), 2);
        due("40 statements", read(x, times("#1;", 40)), 40);
        due("13 symbols", read(x, "#++++++1111111;"), -10 - 13);
        due("11 symbols", read(x, "#+++++111111;"), 1);
        due("nested", read(x, "*1{?a{!;}{^;}}"), 4);
        SpanLifts y = of("c=1;#c;");
        due("lifts", y.lifts(0, 0, 0), 1);
        due("methods", y.told(5), 1);
        due("reads()", y.reads(), 2);
        due("no methods", y.told(5), 0);
    }

    private static void faults() {
        fault("i=1;", 0);
        fault("a", 1);
        fault("a  ", 3);
        fault("a=", 2);
        fault("a=1", 3);
        fault("a=12;", 3);
        fault("a=+1;", 4);
        fault("a==1;", 4);
        fault("a=\t1;", 2);
        fault("\0", 0);
        fault("a=1;}", 4);
        fault("a=1;;", 4);
        fault("!;", 0);
        fault("?1{^;}", 3);
        fault("*1{}!;", 4);
        fault("*1{!1;}", 4);
        fault("*1{?a{}", 7);
        fault("?a{}{", 5);
        fault("?a{}{}{}", 6);
        fault("*a{}{}", 4);
        fault("?{}", 1);
        fault("?a;", 2);
        fault("#;", 1);
        fault("<;", 1);
        fault("a=1;{}", 4);
        fault("A=1;", 0);
        fault("#++++++111111 1;", 14);
        fault("#++++++111111  ", 15);
        fault("#++++++111111;", 13);
        fault("#++++++++++++1;", 13);
        fault(times("#1;", 40) + "#1;", 120);
        fault(times("#1;", 40) + "  !;", 122);
        fault("*1{" + times("!;", 39) + "!;", 81);
        fault("*1{" + times("!;", 39) + "", 81);
        fault("*1{" + times("!;", 39) + "}}", 82);
        due("loop with 39 inside", read(new SpanLifts(), "*1{" + times("!;", 39) + "}"), 40);
        due("40 loops in one another", read(new SpanLifts(), times("*a{", 40) + times("}", 40)), 40);
    }

    private static void statements() {
        SpanLifts x = of("c=+ab;?c{#1;*a{!;^;}}{d=2;<d;}?0{}{}");
        int[][] rows = {
            // kind, parent, inside, position, in else, variable, method
            {0, NONE, 0, 0, 0, 2, NONE},
            {5, NONE, 6, 1, 0, NONE, NONE},
            {1, 1, 0, 0, 0, NONE, NONE},
            {6, 1, 2, 1, 0, NONE, NONE},
            {3, 3, 0, 0, 0, NONE, NONE},
            {4, 3, 0, 1, 0, NONE, NONE},
            {0, 1, 0, 0, 1, 3, NONE},
            {2, 1, 0, 1, 1, NONE, NONE},
            {5, NONE, 0, 2, 0, NONE, NONE},
        };
        for (int k = 0; k < rows.length; k++) {
            for (int w = 0; w <= 6; w++) due("statement(" + k + ", " + w + ")", x.statement(k, w), rows[k][w]);
        }
        due("statement(9, 0)", x.statement(9, 0), BAD);
        due("statement(-1, 0)", x.statement(-1, 0), BAD);
        due("statement(0, 7)", x.statement(0, 7), BAD);
        due("statement(0, -1)", x.statement(0, -1), BAD);
        due("statement(MAX, MIN)", x.statement(MAX, MIN), BAD);
        due("told(0)", x.told(0), 5);
        due("lifts(2, 2, 0)", x.lifts(2, 2, 0), 1);
        due("kind of a call", x.statement(2, 0), 7);
        due("method of a call", x.statement(2, 6), 0);
        due("variable of a call", x.statement(2, 5), NONE);
        due("inside of a call", x.statement(2, 2), 0);
        due("parent of a call", x.statement(2, 1), 1);
    }

    private static void signs() {
        SpanLifts x = of("c=+a%91;*1{!;}");
        String e = "+a%91";
        for (int i = 0; i < e.length(); i++) due("sign(0, " + i + ")", x.sign(0, i), e.charAt(i));
        due("sign(0, 5)", x.sign(0, 5), NONE);
        due("sign(0, MAX)", x.sign(0, MAX), NONE);
        due("sign of a break", x.sign(2, 0), NONE);
        due("sign(0, -1)", x.sign(0, -1), BAD);
        due("sign(3, 0)", x.sign(3, 0), BAD);
        due("sign(-1, 0)", x.sign(-1, 0), BAD);
        due("sign(3, -1)", x.sign(3, -1), BAD);
        due("told(0)", x.told(0), 4);
        due("lifts", x.lifts(1, 1, 0), 1);
        due("a call without variables", x.sign(1, 0), '>');
        due("a call without variables", x.sign(1, 1), NONE);
    }

    private static void ran(String text, int a, int b, int... due) {
        SpanLifts x = of(text);
        due("runs of " + text, x.runs(a, b), due[0]);
        for (int w = 0; w <= 2; w++) due("ran(" + w + ") of " + text, x.ran(w, 0), due[1 + w]);
        due("ran(4) of " + text, x.ran(4, 0), due[4]);
        for (int k = 5; k < due.length; k++) due("print of " + text, x.ran(3, k - 5), due[k]);
    }

    private static void running() {
        // answer, value, steps, how many prints, variables, prints
        ran("#+ab;#-ab;#*ab;#/ab;#%ab;#<ab;#=ab;", -7, 2, 0, 0, 7, 7, 3, -5, -9, -14, -3, -1, 1, 0);
        ran("#+a1;#/ba;#%ba;", MAX, MIN, 0, 0, 3, 3, 3, MIN, -1, -1);
        ran("#/ab;#%ab;", MIN, -1, 0, 0, 2, 2, 3, MIN, 0);
        ran("<a;#1;", 5, 0, 1, 5, 1, 0, 3);
        ran("c=c;", 0, 0, 3, 0, 1, 0, 3);
        ran("c=1;d=/cb;", 0, 0, 2, 0, 2, 0, 7);
        ran("#%a0;", 1, 1, 2, 0, 1, 0, 3);
        ran("#+c/10;", 0, 0, 3, 0, 1, 0, 3);
        ran("#+/10c;", 0, 0, 2, 0, 1, 0, 3);
        ran("#/c0;", 0, 0, 3, 0, 1, 0, 3);
        ran("#/0/10;", 0, 0, 2, 0, 1, 0, 3);
        ran("?a{#1;}{#2;}?a{#3;}", 0, 0, 0, 0, 3, 1, 3, 2);
        ran("?a{#1;}{#2;}?a{#3;}", -1, 0, 0, 0, 4, 2, 3, 1, 3);
        ran("*a{a=-a1;}", 3, 0, 0, 0, 7, 0, 3);
        ran("*1{?=a3{!;}a=+a1;}#a;", 0, 0, 0, 0, 13, 1, 3, 3);
        ran("*<a4{a=+a1;?%a2{^;}#a;}", 0, 0, 0, 0, 17, 2, 3, 2, 4);
        ran("*1{*1{!;}<b;}", 0, 8, 1, 8, 4, 0, 3);
        ran("*1{}", 0, 0, 4, 0, 400, 0, 3);
        ran("*1{#a;}", 6, 0, 4, 0, 400, 200, 3, 6);
        ran("a=+a0;*<bc{}", 0, 0, 3, 0, 2, 0, 3);
        // exactly 400 steps are no failure: 1 + 199 * 2 + 1
        ran("c=0;*<ca{c=+c1;}", 199, 0, 0, 0, 400, 0, 7);
        ran("c=0;*<ca{c=+c1;}", 200, 0, 4, 0, 400, 0, 7);
        ran("c=0;*<ca{c=+c1;}#/10;", 199, 0, 4, 0, 400, 0, 7);
        ran("a=2;b=3;*a{a=0;}", 9, 9, 0, 0, 5, 0, 3);
    }

    private static void results() {
        SpanLifts x = of("#a;#b;<9;");
        due("runs", x.runs(4, 5), 1);
        due("reads", read(x, "c=1;"), 1);
        due("a result that stays", x.ran(0, 0), 9);
        due("back", x.back(), 1);
        due("a result that stays", x.ran(3, 1), 5);
        due("no third print", x.ran(3, 2), 0);
        due("no such print", x.ran(3, MAX), 0);
        due("ran(0, 7)", x.ran(0, 7), 9);
        due("ran(5, 0)", x.ran(5, 0), BAD);
        due("ran(-1, 0)", x.ran(-1, 0), BAD);
        due("ran(0, -1)", x.ran(0, -1), BAD);
        due("ran(3, MIN)", x.ran(3, MIN), BAD);
        due("told(0)", x.told(0), 4);
        SpanLifts y = of("<-03;");
        due("runs", y.runs(0, 0), 1);
        due("a value like an error", y.ran(0, 0), -3);
        due("is none", y.told(1), 0);
        SpanLifts z = of("c=1;d=+cc;#/da;#d;");
        due("lifts", z.lifts(0, 2, 0), 1);
        due("runs", z.runs(0, 0), 2);
        due("a call that was not finished sets nothing", z.ran(4, 0), 3);
        due("steps in the method", z.ran(1, 0), 3);
        due("runs", z.runs(1, 0), 0);
        due("outputs of the call", z.ran(4, 0), 11);
        SpanLifts u = of("*a{?b{!;}c=1;#c;a=0;}");
        due("lifts", u.lifts(1, 3, 0), 1);
        due("runs", u.runs(1, 1), 0);
        due("an output that the method did not set", u.ran(4, 0), 3);
        due("runs", u.runs(1, 0), 0);
        due("an output that the method set", u.ran(4, 0), 7);
        due("no third print", u.ran(3, 1), 0);
        SpanLifts w = of("*b{?b{!;}a=1;#a;}*b{?b{!;}c=1;#c;}");
        due("lifts", w.lifts(1, 3, 1), 2);
        due("runs", w.runs(1, 1), 0);
        due("an output that the method did not set", w.ran(4, 0), 3);
        SpanLifts r = of("c=a;<c;");
        due("lifts", r.lifts(0, 1, 0), 1);
        due("runs", r.runs(7, 0), 1);
        due("value", r.ran(0, 0), 7);
        due("c is no output", r.ran(4, 0), 3);
    }

    private static void spanDue(SpanLifts x, int i, int j, int... due) {
        for (int w = 0; w <= 3; w++) due("span(" + i + ", " + j + ", " + w + ")", x.span(i, j, w), due[w]);
    }

    private static void spans() {
        SpanLifts x = of("c=a;*c{?b{!;}{^;}<c;}d=1;#d;");
        // exits, inputs, outputs, barred
        spanDue(x, 2, 2, 6, 2, 0, 0);
        spanDue(x, 2, 5, 6, 2, 0, 0);
        spanDue(x, 5, 5, 8, 4, 0, 0);
        spanDue(x, 1, 1, 1, 6, 0, 0);
        spanDue(x, 0, 6, 1, 3, 8, 0);
        spanDue(x, 3, 3, 2, 0, 0, 0);
        spanDue(x, 4, 4, 4, 0, 0, 0);
        int[][] none = {{1, 0}, {2, 3}, {3, 4}, {0, 2}, {-1, 0}, {0, 8}, {8, 8}, {MIN, MAX}, {MAX, MIN}, {0, -1}};
        for (int[] ij : none) due("span(" + ij[0] + ", " + ij[1] + ", 0)", x.span(ij[0], ij[1], 0), NO);
        due("told(1)", x.told(1), none.length);
        due("span(0, 0, 4)", x.span(0, 0, 4), BAD);
        due("span(0, 0, -1)", x.span(0, 0, -1), BAD);
        due("span(9, 0, 4)", x.span(9, 0, 4), BAD);
        due("told(0)", x.told(0), 3);
        // an output that some path does not set is an input; e is changed where no path comes
        spanDue(of("c=1;?a{c=2;}#c;"), 1, 1, 1, 5, 4, 0);
        spanDue(of("e=0;*a{!;e=1;}#e;"), 1, 1, 1, 17, 16, 0);
        spanDue(of("e=0;*a{!;e=1;}"), 1, 1, 1, 1, 0, 0);
        // live only at the break, and not set on the way to it
        spanDue(of("c=0;*a{?b{!;}c=1;?c{^;}c=0;}#c;"), 2, 4, 3, 6, 4, 0);
        spanDue(of("c=0;*a{?b{!;}c=1;#c;}"), 2, 4, 3, 2, 4, 0);
        spanDue(of("c=0;*a{?b{!;}c=1;#c;}"), 2, 5, 3, 2, 0, 0);
        // a variable comes around the loop
        spanDue(of("c=0;*a{#c;c=+c1;}"), 3, 3, 1, 4, 4, 0);
        spanDue(of("*a{c=b;#c;}"), 1, 1, 1, 2, 4, 0);
        // the same when the loop is statement 0
        spanDue(of("*a{#+ab;b=-b1;}"), 2, 2, 1, 2, 2, 0);
        spanDue(of("*a{#b;b=1;c=2;}"), 2, 2, 1, 0, 2, 0);
        spanDue(of("*a{#b;b=1;?a{}{<1;}}"), 2, 2, 1, 0, 2, 0);
        spanDue(of("*a{#b;b=1;?a{<1;}}"), 2, 2, 1, 0, 2, 0);
        // reasons: 2 before 3
        spanDue(of("#+c+d+e+fg;"), 0, 0, 1, 124, 0, 2);
        spanDue(of("#+c+d+ef;"), 0, 0, 1, 60, 0, 3);
        spanDue(of("c=1;d=1;e=1;f=1;#+c+d+ef;"), 0, 2, 1, 0, 28, 0);
        spanDue(of("c=1;d=1;e=1;f=1;#+c+d+ef;"), 0, 3, 1, 0, 60, 2);
        spanDue(of("?a{c=1;}#c;"), 2, 2, 1, 4, 0, 3);
        spanDue(of("?a{c=1;}{c=2;}#c;"), 3, 3, 1, 4, 0, 0);
        spanDue(of("<1;#c;"), 1, 1, 1, 4, 0, 0);
        SpanLifts y = of("#c;#1;");
        due("lifts", y.lifts(1, 1, 0), 1);
        spanDue(y, 0, 1, 1, 4, 0, 1);
    }

    private static void handing() {
        SpanLifts x = of("h=1;g=2;c=+hg;d=+ba;g=c;#+g+dc;");
        int[] ins = {7, 6, 1, 0}, outs = {6, 2, 3};
        for (int k = 0; k < 4; k++) due("hands(2, 4, 0, " + k + ")", x.hands(2, 4, 0, k), ins[k]);
        for (int k = 0; k < 3; k++) due("hands(2, 4, 1, " + k + ")", x.hands(2, 4, 1, k), outs[k]);
        due("hands(2, 4, 0, 4)", x.hands(2, 4, 0, 4), NONE);
        due("hands(2, 4, 1, 3)", x.hands(2, 4, 1, 3), NONE);
        due("hands(2, 4, 1, MAX)", x.hands(2, 4, 1, MAX), NONE);
        due("hands(2, 4, 2, 0)", x.hands(2, 4, 2, 0), BAD);
        due("hands(2, 4, -1, 0)", x.hands(2, 4, -1, 0), BAD);
        due("hands(2, 4, 0, -1)", x.hands(2, 4, 0, -1), BAD);
        due("hands(4, 2, 0, -1)", x.hands(4, 2, 0, -1), BAD);
        due("hands(4, 2, 0, 0)", x.hands(4, 2, 0, 0), NO);
        due("told(0)", x.told(0), 4);
        due("told(1)", x.told(1), 1);
        // in an assignment the expression comes first; in a call the inputs come before the outputs
        SpanLifts y = of("c=+ba;#+ca;");
        due("lifts(0, 0, 0)", y.lifts(0, 0, 0), 1);
        due("hands(0, 1, 0, 0)", y.hands(0, 1, 0, 0), 1);
        due("hands(0, 1, 0, 1)", y.hands(0, 1, 0, 1), 0);
        due("hands(0, 0, 1, 0)", y.hands(0, 0, 1, 0), 2);
    }

    private static void living() {
        SpanLifts x = of("c=1;d=2;*a{?b{!;}c=d;^;}#c;");
        due("c at the break", x.live(3, 5, 2, 2), 1);
        due("d at the break", x.live(3, 5, 2, 3), 0);
        due("d at the continue", x.live(3, 6, 4, 3), 1);
        due("a at the continue", x.live(3, 6, 4, 0), 1);
        due("c behind c=d", x.live(5, 5, 1, 2), 1);
        due("b behind the loop", x.live(2, 2, 1, 1), 0);
        due("c at the end", x.live(7, 7, 1, 2), 0);
        due("no end", x.live(3, 6, 1, 0), NO);
        due("no return", x.live(3, 6, 8, 0), NO);
        due("no span", x.live(3, 7, 1, 0), NO);
        due("told(1)", x.told(1), 3);
        int[] exits = {0, 3, 5, 6, 7, 9, 16, -1, -8, MIN, MAX};
        for (int e : exits) due("live(0, 0, " + e + ", 0)", x.live(0, 0, e, 0), BAD);
        due("live(0, 0, 1, 8)", x.live(0, 0, 1, 8), BAD);
        due("live(0, 0, 1, -1)", x.live(0, 0, 1, -1), BAD);
        due("live(9, 9, 1, 8)", x.live(9, 9, 1, 8), BAD);
        due("told(0)", x.told(0), exits.length + 3);
        SpanLifts y = of("<a;#a;");
        due("nothing is live at a return", y.live(0, 0, 8, 0), 0);
        SpanLifts w = of("#1;#b;");
        due("b", w.live(0, 0, 1, 1), 1);
        due("reads()", read(w, "#1;*a{}"), 2);
        due("b in another program", w.live(0, 0, 1, 1), 0);
        // a call sets for an exit only what each path to it sets
        SpanLifts z = of("*a{c=0;d=0;?b{!;}c=1;d=1;#+cd;}#c;");
        due("lifts", z.lifts(3, 6, 0), 1);
        due("c in front of the call", z.live(2, 2, 1, 2), 1);
        due("d in front of the call", z.live(2, 2, 1, 3), 0);
    }

    private static void sureness() {
        SpanLifts x = of("?a{c=1;d=1;}{c=2;<d;}*b{e=1;!;f=1;}?a{<1;}{<2;}#h;");
        due("a", x.sure(0, 0), 1);
        due("b", x.sure(0, 1), 1);
        due("c at the beginning", x.sure(0, 2), 0);
        due("c behind the if", x.sure(5, 2), 1);
        due("d behind the if", x.sure(5, 3), 1);
        due("d in the else block", x.sure(4, 3), 0);
        due("e in the loop", x.sure(7, 4), 1);
        due("e before it", x.sure(6, 4), 0);
        due("no path", x.sure(8, 7), 1);
        due("e behind the loop", x.sure(9, 4), 0);
        due("no path", x.sure(12, 7), 1);
        due("sure(13, 0)", x.sure(13, 0), BAD);
        due("sure(-1, 0)", x.sure(-1, 0), BAD);
        due("sure(0, 8)", x.sure(0, 8), BAD);
        due("sure(0, -1)", x.sure(0, -1), BAD);
        due("told(0)", x.told(0), 4);
        SpanLifts y = of("c=a;d=b;#d;");
        due("lifts(0, 1, 0)", y.lifts(0, 1, 0), 1);
        due("d is an output", y.sure(1, 3), 1);
        due("c is none", y.sure(1, 2), 0);
    }

    private static void likeness() {
        SpanLifts x = of("c=+a1;d=+b1;e=+a2;f=+aa;g=+c1;#+c+d+e+fg;");
        due("how many", x.alike(0, 0, 0, 0), 2);
        due("first", x.alike(0, 0, 1, 0), 1);
        due("second", x.alike(0, 0, 1, 1), 4);
        due("third", x.alike(0, 0, 1, 2), NONE);
        due("a", x.alike(0, 0, 2, 0), 1);
        due("c", x.alike(0, 0, 2, 2), 3);
        due("d is not in the span", x.alike(0, 0, 2, 3), NONE);
        due("the variables twice", x.alike(3, 3, 0, 0), 0);
        due("none is taken", x.alike(3, 3, 2, 0), NONE);
        due("alike(0, 0, 3, 0)", x.alike(0, 0, 3, 0), BAD);
        due("alike(0, 0, -1, 0)", x.alike(0, 0, -1, 0), BAD);
        due("alike(0, 0, 0, -1)", x.alike(0, 0, 0, -1), BAD);
        due("alike(0, 0, 2, 8)", x.alike(0, 0, 2, 8), BAD);
        due("alike(0, 0, 0, 8)", x.alike(0, 0, 0, 8), 2);
        due("alike(0, 0, 1, MAX)", x.alike(0, 0, 1, MAX), NONE);
        due("alike(9, 0, 2, 8)", x.alike(9, 0, 2, 8), BAD);
        due("alike(9, 0, 0, 0)", x.alike(9, 0, 0, 0), NO);
        due("told(0)", x.told(0), 5);
        due("told(1)", x.told(1), 1);
        due("an empty else block", of("?a{#1;}{}?a{#1;}").alike(0, 0, 0, 0), 0);
        due("two empty else blocks", of("?a{#1;}{}?b{#1;}{}").alike(0, 0, 0, 0), 1);
        due("then and else", of("?a{#1;}{}?a{}{#1;}").alike(0, 0, 0, 0), 0);
        due("inside and behind", of("?a{#1;}#1;?a{#1;#1;}").alike(0, 2, 0, 0), 0);
        due("nested otherwise", of("?a{}?a{#1;}#1;?a{?a{}}#1;#1;").alike(0, 3, 0, 0), 0);
        due("nested otherwise", of("?a{}?a{#1;}#1;?a{?a{}}#1;#1;").alike(4, 7, 0, 0), 0);
        due("not across the end of a block", of("#1;#1;?a{#1;}#1;").alike(0, 1, 0, 0), 0);
        due("not into the else block", of("#1;#1;?a{#1;}{#1;}").alike(0, 1, 0, 0), 0);
        due("in an else block", of("#a;?a{}{#b;}").alike(0, 0, 1, 0), 2);
        due("no overlap", of("#1;#1;#1;#1;#1;").alike(1, 2, 0, 0), 1);
        due("no overlap", of("#1;#1;#1;#1;#1;").alike(1, 2, 1, 0), 3);
        due("no overlap with those before", of("#1;#1;#1;#1;#1;#1;#1;").alike(6, 6, 0, 0), 6);
        due("pairs", of("#1;#1;#1;#1;#1;#1;#1;").alike(5, 6, 0, 0), 2);
        due("the other is barred", of("#a;#c;").alike(0, 0, 0, 0), 0);
        due("the first one is barred", of("#c;#a;").alike(0, 0, 0, 0), 1);
        due("other outputs", of("c=1;d=1;#d;").alike(0, 0, 0, 0), 0);
        due("a loop around does not matter", of("*a{#1;}#1;").alike(1, 1, 0, 0), 1);
        SpanLifts y = of("#1;#1;#1;");
        due("lifts", y.lifts(0, 0, 0), 1);
        due("a call is not alike", y.alike(0, 0, 0, 0), 0);
        due("a call is not alike", y.alike(1, 1, 0, 0), 1);
    }

    private static void lifting() {
        SpanLifts x = of("c=+ab;d=*cc;#d;e=+ba;f=*ee;#f;");
        due("lifts(0, 1, 2)", x.lifts(0, 1, 2), BAD);
        due("lifts(0, 1, -1)", x.lifts(0, 1, -1), BAD);
        due("lifts(1, 0, 2)", x.lifts(1, 0, 2), BAD);
        due("lifts(1, 0, 0)", x.lifts(1, 0, 0), NO);
        due("errors change nothing", x.told(6), 1);
        due("lifts(0, 1, 1)", x.lifts(0, 1, 1), 2);
        due("told(4)", x.told(4), 4);
        due("told(5)", x.told(5), 1);
        due("told(6)", x.told(6), 2);
        String first = "ab>d", second = "ba>f";
        for (int i = 0; i < 4; i++) {
            due("sign(0, " + i + ")", x.sign(0, i), first.charAt(i));
            due("sign(2, " + i + ")", x.sign(2, i), second.charAt(i));
        }
        due("runs(3, 4)", x.runs(3, 4), 0);
        due("print", x.ran(3, 0), 49);
        due("print", x.ran(3, 1), 49);
        due("steps", x.ran(1, 0), 6);
        due("c and e are not set any more", x.ran(4, 0), 43);
        due("a barred span", x.lifts(0, 1, 0), NO);
        due("lifts(1, 1, 0)", x.lifts(1, 1, 0), 1);
        due("lifts(3, 3, 0)", x.lifts(3, 3, 0), 1);
        due("no span left that is not barred", x.lifts(0, 0, 0), NO);
        SpanLifts y = of("#1;#2;#3;#4;");
        for (int k = 0; k < 3; k++) due("lifts", y.lifts(k, k, 0), 1);
        due("a 4th method", y.lifts(3, 3, 0), FULL);
        due("a 4th method of a barred span", y.lifts(0, 0, 0), NO);
        due("told(2)", y.told(2), 1);
        due("told(6)", y.told(6), 4);
        SpanLifts z = of("*a{?b{!;}a=-a1;#a;}<a;");
        due("with a break", z.lifts(1, 3, 0), 1);
        due("exits", z.method(0, 0), 3);
        due("runs(2, 0)", z.runs(2, 0), 1);
        due("value", z.ran(0, 0), 0);
        due("runs(2, 1)", z.runs(2, 1), 1);
        due("value", z.ran(0, 0), 2);
    }

    private static void methods() {
        SpanLifts x = of("c=/a2;?b{d=%ac;}{d=1;}#d;#/a-10;#%a5;");
        due("lifts(0, 1, 0)", x.lifts(0, 1, 0), 1);
        int[] first = {1, 2, 1, 4, 1, 1};
        for (int w = 0; w <= 5; w++) due("method(0, " + w + ")", x.method(0, w), first[w]);
        due("formal(0, 0, 0)", x.formal(0, 0, 0), 0);
        due("formal(0, 0, 1)", x.formal(0, 0, 1), 1);
        due("formal(0, 0, 2)", x.formal(0, 0, 2), NONE);
        due("formal(0, 1, 0)", x.formal(0, 1, 0), 3);
        due("formal(0, 1, 1)", x.formal(0, 1, 1), NONE);
        due("formal(0, 1, MAX)", x.formal(0, 1, MAX), NONE);
        due("lifts(2, 2, 0)", x.lifts(2, 2, 0), 1);
        due("a divisor that is an expression", x.method(1, 5), 1);
        due("lifts(3, 3, 0)", x.lifts(3, 3, 0), 1);
        due("a divisor that is a digit", x.method(2, 5), 0);
        int[][] bad = {{3, 0}, {-1, 0}, {0, 6}, {0, -1}, {MAX, 0}, {MIN, 0}};
        for (int[] b : bad) due("method(" + b[0] + ", " + b[1] + ")", x.method(b[0], b[1]), BAD);
        due("formal(3, 0, 0)", x.formal(3, 0, 0), BAD);
        due("formal(-1, 0, 0)", x.formal(-1, 0, 0), BAD);
        due("formal(0, 2, 0)", x.formal(0, 2, 0), BAD);
        due("formal(0, -1, 0)", x.formal(0, -1, 0), BAD);
        due("formal(0, 0, -1)", x.formal(0, 0, -1), BAD);
        due("told(0)", x.told(0), bad.length + 5);
        String[] texts = {"#/a0;", "#%a9;", "#/a1;", "#/+a0b;", "#/+1/a23;", "#%4/12;", "#/a+11;", "#+/a23;"};
        int[] risks = {1, 0, 0, 1, 0, 1, 1, 0};
        for (int i = 0; i < texts.length; i++) {
            SpanLifts y = of(texts[i]);
            due("lifts", y.lifts(0, 0, 0), 1);
            due("risk of " + texts[i], y.method(0, 5), risks[i]);
        }
    }

    private static void settling() {
        SpanLifts x = of("#a;?b{#b;}{#a;}#1;c=1;");
        long before = x.digest();
        due("lifts", x.lifts(0, 0, 1), 3);
        due("lifts", x.lifts(4, 4, 0), 1);
        due("settles(2)", x.settles(2), BAD);
        due("settles(-1)", x.settles(-1), BAD);
        due("settles(0)", x.settles(0), 3);
        due("told(5)", x.told(5), 1);
        due("told(6)", x.told(6), 4);
        due("the number decreases", x.statement(4, 6), 0);
        due("its own variables", x.sign(2, 0), 'b');
        due("in the else block", x.statement(3, 4), 1);
        due("position", x.statement(3, 3), 0);
        due("settles(0)", x.settles(0), 1);
        due("told(5)", x.told(5), 0);
        due("settles(0)", x.settles(0), BAD);
        for (int n = 0; n < 4; n++) due("back()", x.back(), 4 - n);
        due("told(0)", x.told(0), 3);
        SpanLifts y = of("#a;?b{#b;}{#a;}#1;c=1;");
        due("lifts", y.lifts(0, 0, 1), 3);
        due("settles", y.settles(0), 3);
        due("back", y.back(), 2);
        due("back", y.back(), 1);
        due("the program is as before", y.digest(), before);
        SpanLifts z = of("*a{?b{c=1;!;}a=-a1;}");
        due("lifts", z.lifts(1, 4, 0), 1);
        due("settles", z.settles(0), 1);
        int[] parents = {NONE, 0, 1, 1, 0};
        for (int k = 0; k < 5; k++) due("parent", z.statement(k, 1), parents[k]);
    }

    private static void goingBack() {
        SpanLifts x = new SpanLifts();
        due("back() at first", x.back(), NO);
        for (int n = 1; n <= 9; n++) {
            due("reads()", read(x, times("#1;", n)), n);
            due("told(6)", x.told(6), Math.min(n, 6));
        }
        due("a fault loses no state", read(x, "!"), -10);
        for (int n = 5; n >= 0; n--) {
            due("back()", x.back(), n);
            due("told(4)", x.told(4), n + 3);
        }
        due("back() at last", x.back(), NO);
        due("the text stays", x.told(3), 1);
        due("told(1)", x.told(1), 2);
        SpanLifts y = of("c=1;#c;");
        due("lifts", y.lifts(0, 1, 0), 1);
        due("back", y.back(), 1);
        due("told(5)", y.told(5), 0);
        due("told(4)", y.told(4), 2);
        due("span after back()", y.span(0, 1, 0), 1);
        due("no change by queries", y.told(6), 1);
    }

    private static void telling() {
        SpanLifts x = of("#1;#2;");
        due("told(7)", x.told(7), BAD);
        due("told(-1)", x.told(-1), BAD);
        due("told(MIN)", x.told(MIN), BAD);
        due("told(MAX)", x.told(MAX), BAD);
        due("span", x.span(5, 5, 0), NO);
        due("lifts", x.lifts(0, 0, 0), 1);
        int[] all = {4, 1, 0, 6, 2, 1, 2};
        for (int w = 0; w <= 6; w++) due("told(" + w + ")", x.told(w), all[w]);
    }

    private static void checksum() {
        SpanLifts x = new SpanLifts();
        long h = 2251;
        for (int n = 0; n < 7; n++) h *= 31;
        due("digest of a new object", x.digest(), h);
        x = of("#a;");
        due("lifts", x.lifts(0, 0, 0), 1);
        due("an error", x.told(9), BAD);
        int[] numbers = {1, 0, 0, 3, 1, 1, 2, 7, NONE, 0, 0, 0, NONE, 0, 'a', '>', 1, 1, 0, 1, 1, 0};
        h = 2251;
        for (int v : numbers) h = 31 * h + v;
        due("digest", x.digest(), h);
        due("digest again", x.digest(), h);
    }

    public static void main(String[] args) {
        newObject();
        typing();
        reading();
        faults();
        statements();
        signs();
        running();
        results();
        spans();
        handing();
        living();
        sureness();
        likeness();
        lifting();
        methods();
        settling();
        goingBack();
        telling();
        checksum();
        System.out.println(checked + " answers, " + wrong + " of them not as due");
        if (wrong != 0) System.exit(1);
    }
}
