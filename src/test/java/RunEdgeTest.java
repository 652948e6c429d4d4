/** The sentences on runs: promises 7 and 8, and what the document says of statements, expressions, failures and calls. */
public final class RunEdgeTest {
    private static final int NONE = Edges.NONE, BAD = Edges.BAD, NO = Edges.NO, MIN = Edges.MIN, MAX = Edges.MAX;
    private static final int END = 0, RETURN = 1, DIVISION = 2, NOT_SET = 3, TOO_LONG = 4;

    private RunEdgeTest() {
    }

    private static void says(String words) {
        Edges.says(words);
    }

    /** Runs a program and looks at all the results; set is what ran(4, 0) must answer. */
    private static void run(Probe x, int a, int b, int answer, int value, int steps, int set, int... prints) {
        x.due("runs " + a + " " + b, answer);
        results(x, value, steps, set, prints);
    }

    private static void results(Probe x, int value, int steps, int set, int... prints) {
        x.due("ran 0 0", value).due("ran 1 0", steps).due("ran 2 0", prints.length).due("ran 4 0", set);
        for (int k = 0; k < prints.length; k++) {
            x.due("ran 3 " + k, prints[k]);
        }
        x.due("ran 3 " + prints.length, 0);
    }

    private static void run(String program, int a, int b, int answer, int value, int steps, int set, int... prints) {
        run(Probe.of(program), a, b, answer, value, steps, set, prints);
    }

    /** A program that prints the value of an expression. */
    private static void value(String expression, int a, int b, int want) {
        run("#" + expression + ";", a, b, END, 0, 1, 3, want);
    }

    private static void fails(String expression, int a, int b, int answer) {
        run("#" + expression + ";", a, b, answer, 0, 1, 3);
    }

    private static void values() {
        says("`a`: the value of a");
        run("#a;<a;", MIN, 7, RETURN, MIN, 2, 3, MIN);
        run("#a;<a;", MAX, 7, RETURN, MAX, 2, 3, MAX);

        says("`b`: the value of b");
        run("#b;<b;", 7, MIN, RETURN, MIN, 2, 3, MIN);
        run("#b;<b;", 7, MAX, RETURN, MAX, 2, 3, MAX);

        says("Variables are ints with overflow.");
        value("+a1", MAX, 0, MIN);
        value("-a1", MIN, 0, MAX);
        value("*a2", MAX, 0, -2);
        value("*aa", 65536, 0, 0);
        value("*ab", MIN, -1, MIN);
        value("-0a", MIN, 0, MIN);
        value("+ab", 0, 0, 0);
        value("-ab", 0, 0, 0);
        value("*ab", 0, 0, 0);
        value("*ab", -3, 0, 0);
        run("c=+ab;#c;d=*cc;#d;", MAX, MAX, END, 0, 4, 15, -2, 4);

        says("At first only a and b are set.");
        for (char v = 'c'; v <= 'h'; v++) {
            fails("" + v, 1, 1, NOT_SET);
        }
        Probe again = Probe.of("?a{c=1;}#c;");
        run(again, 1, 0, END, 0, 3, 7, 1);
        run(again, 0, 0, NOT_SET, 0, 2, 3);
        run(new Probe(), 5, 6, END, 0, 0, 3);

        says("/ and % are as in Java; < and = give 1 or 0.");
        int[][] quotients = {{7, 2, 3, 1}, {-7, 2, -3, -1}, {7, -2, -3, 1}, {-7, -2, 3, -1}, {1, 2, 0, 1}, {-1, 2, 0, -1},
            {MIN, -1, MIN, 0}, {MIN, 1, MIN, 0}, {MIN, MAX, -1, -1}, {MAX, MIN, 0, MAX}, {MIN, MIN, 1, 0}, {0, -5, 0, 0}};
        for (int[] q : quotients) {
            value("/ab", q[0], q[1], q[2]);
            value("%ab", q[0], q[1], q[3]);
        }
        int[][] compared = {{0, 0, 0, 1}, {0, 1, 1, 0}, {1, 0, 0, 0}, {-1, 0, 1, 0}, {MIN, MAX, 1, 0}, {MAX, MIN, 0, 0},
            {MIN, MIN, 0, 1}, {MAX, MAX, 0, 1}, {MIN, 0, 1, 0}, {0, MIN, 0, 0}};
        for (int[] c : compared) {
            value("<ab", c[0], c[1], c[2]);
            value("=ab", c[0], c[1], c[3]);
        }

        says("The operands of an expression are evaluated from\nleft to right.");
        value("-ab", 9, 2, 7);
        value("--ab1", 9, 2, 6);
        value("-a-b1", 9, 2, 8);
        value("/a/b2", 9, 6, 3);
        value("+-*/%1b3d5f".replace('d', '4').replace('f', '5'), 0, 6, ((((1 % 6) / 3) * 4) - 5) + 5);
        fails("+c/10", 0, 0, NOT_SET);
        fails("+/10c", 0, 0, DIVISION);
        fails("/c0", 0, 0, NOT_SET);
        fails("/0c", 0, 0, NOT_SET);
        fails("%%a0c", 4, 0, DIVISION);
        fails("%a*c/10", 4, 0, NOT_SET);
        fails("%a*/10c", 4, 0, DIVISION);
        fails("*0c", 0, 0, NOT_SET);
        fails("*0/a0", 0, 0, DIVISION);
    }

    private static void statements() {
        says("If: the first block is executed if the expression is not 0, otherwise the else block.");
        for (int a : new int[] {1, -1, 2, MIN, MAX}) {
            run("?a{#1;}{#2;}?a{#3;}?a{}{#4;}", a, 0, END, 0, 5, 3, 1, 3);
        }
        run("?a{#1;}{#2;}?a{#3;}?a{}{#4;}", 0, 0, END, 0, 5, 3, 2, 4);
        run("?a{}{}?a{}#5;", 0, 0, END, 0, 3, 3, 5);
        run("?a{?b{#1;}}{#2;}", 1, 0, END, 0, 2, 3);
        run("?a{?b{#1;}}{#2;}", 0, 0, END, 0, 2, 3, 2);
        run("?a{}{?b{#1;}}#2;", 0, 0, END, 0, 3, 3, 2);
        run("*a{a=-a1;?b{#1;}}#9;", 2, 0, END, 0, 8, 3, 9);
        run("#8;*a{a=-a1;?b{}{}}#9;", 1, 1, END, 0, 6, 3, 8, 9);

        says("Loop: as long as the expression is not 0, its block is\nexecuted.");
        run("*a{#a;a=-a1;}#9;", 0, 0, END, 0, 2, 3, 9);
        run("*a{#a;a=-a1;}#9;", 1, 0, END, 0, 5, 3, 1, 9);
        run("*a{#a;a=-a1;}#9;", 3, 0, END, 0, 11, 3, 3, 2, 1, 9);
        run("*a{#a;a=+a1;}#9;", -2, 0, END, 0, 8, 3, -2, -1, 9);
        run("*a{a=0;}", MIN, 0, END, 0, 3, 3);
        run("*0{}*0{#1;}#2;", 0, 0, END, 0, 3, 3, 2);
        run("*1{}#1;", 0, 0, TOO_LONG, 0, 400, 3);
        run("*a{a=-a1;b=2;*b{b=-b1;}}#9;", 2, 0, END, 0, 18, 3, 9);
        run("?a{*b{b=0;}}{#7;}#9;", 1, 1, END, 0, 5, 3, 9);

        says("Break leaves the innermost loop around it, continue goes to the expression of this loop, return ends the run"
            + " with a value.");
        run("*1{*1{!;#9;}#1;!;#9;}#2;", 0, 0, END, 0, 6, 3, 1, 2);
        run("*1{?a{?1{!;}}{!;}#9;}#2;", 1, 0, END, 0, 5, 3, 2);
        run("*1{?a{?1{!;}}{!;}#9;}#2;", 0, 0, END, 0, 4, 3, 2);
        run("*b{b=-b1;*a{a=-a1;^;#9;}#b;?b{^;}{#8;}#7;}#6;", 1, 2, END, 0, 18, 3, 1, 0, 8, 7, 6);
        run("*1{<a;#9;}#8;", MIN, 0, RETURN, MIN, 2, 3);
        run("?a{*1{?1{}{}<0;}}{<1;}<2;", 1, 0, RETURN, 0, 4, 3);
        run("?a{*1{?1{}{}<0;}}{<1;}<2;", 0, 0, RETURN, 1, 2, 3);

        says("Each statement except a call is a step when it is executed; for a loop each evaluation of its expression is a step.");
        String[] programs = {"", "c=1;", "#1;", "<1;", "?1{}", "?0{}{}", "?0{#1;#2;}", "?1{#1;}{#2;#3;}", "*0{}", "*0{#1;}",
            "*1{!;}", "*a{a=0;}", "*a{a=0;^;}", "<1;#1;", "*1{*1{!;}!;}"};
        int[] steps = {0, 1, 1, 1, 1, 1, 1, 2, 1, 1, 2, 3, 4, 1, 4};
        for (int i = 0; i < programs.length; i++) {
            Probe x = Probe.of(programs[i]);
            x.due("runs 1 0", programs[i].indexOf('<') >= 0 ? RETURN : END).due("ran 1 0", steps[i]);
        }
        Probe.of("c=1;#c;").due("lifts 0 0 0", 1).due("runs 0 0", END).due("ran 1 0", 2);
        Probe.of("#1;").due("lifts 0 0 0", 1).due("runs 0 0", END).due("ran 1 0", 1);
        Probe.of("*a{a=-a1;#a;}").due("lifts 0 0 0", 1).due("runs 2 0", END).due("ran 1 0", 7);
        Probe.of("*a{a=-a1;#a;}").due("lifts 1 1 0", 1).due("lifts 2 2 0", 1).due("runs 2 0", END).due("ran 1 0", 7);
    }

    private static void failures() {
        says("The step is counted before the expression\nis evaluated, also if this fails.");
        for (String program : new String[] {"#/10;", "d=%10;", "</10;", "?/10{}", "*%10{}"}) {
            run(program, 0, 0, DIVISION, 0, 1, 3);
        }
        for (String program : new String[] {"#c;", "d=c;", "<c;", "?c{}", "*c{}"}) {
            run(program, 0, 0, NOT_SET, 0, 1, 3);
        }
        run("c=1;*/1c{c=0;}", 0, 0, DIVISION, 0, 4, 7);

        says("A failure ends the run: failure 1 is a division (/ or %) by 0, failure 2 the use of a variable that is not set,"
            + " failure 3\na 401st step, which is neither counted nor executed.");
        run("#1;#/ab;#2;", 1, 0, DIVISION, 0, 2, 3, 1);
        run("#1;#%ab;#2;", 1, 0, DIVISION, 0, 2, 3, 1);
        run("#1;#/00;#2;", 0, 0, DIVISION, 0, 2, 3, 1);
        run("#1;#/a-bb;#2;", MIN, 9, DIVISION, 0, 2, 3, 1);
        run("?1{#/ab;#2;}<1;", 1, 0, DIVISION, 0, 2, 3);
        run("#1;#c;#2;", 1, 0, NOT_SET, 0, 2, 3, 1);
        run("c=h;#c;", 1, 0, NOT_SET, 0, 1, 3);
        run("c=c;", 1, 0, NOT_SET, 0, 1, 3);
        stepLimit();
    }

    private static void stepLimit() {
        // These make 2 + 2 * a and 3 + 2 * a steps.
        String even = "c=0;*<ca{c=+c1;}", odd = "c=0;c=0;*<ca{c=+c1;}";
        run(even, 199, 0, END, 0, 400, 7);
        run(even, 200, 0, TOO_LONG, 0, 400, 7);
        for (String behind : new String[] {"#1;", "<1;", "d=1;", "#/10;", "#h;", "?1{#1;}", "*0{}", "*h{}", "*1{!;}"}) {
            run(even + behind, 199, 0, TOO_LONG, 0, 400, 7);
        }
        run(odd, 198, 0, END, 0, 399, 7);
        run(odd + "#1;", 198, 0, END, 0, 400, 7, 1);
        run(odd + "<8;", 198, 0, RETURN, 8, 400, 7);
        run(odd + "<8;#1;", 198, 0, RETURN, 8, 400, 7);
        run(odd + "d=1;", 198, 0, END, 0, 400, 15);
        run(odd + "#/10;", 198, 0, DIVISION, 0, 400, 7);
        run(odd + "#h;", 198, 0, NOT_SET, 0, 400, 7);
        run(odd + "?0{#1;}", 198, 0, END, 0, 400, 7);
        run(odd + "?1{#1;}", 198, 0, TOO_LONG, 0, 400, 7);
        run(odd + "*1{!;}", 198, 0, TOO_LONG, 0, 400, 7);
        run(even + "*1{!;}", 198, 0, END, 0, 400, 7);
        run("*1{}", 0, 0, TOO_LONG, 0, 400, 3);
        run("*1{^;}", 0, 0, TOO_LONG, 0, 400, 3);
        run("*1{*1{!;}}", 0, 0, TOO_LONG, 0, 400, 3);
        run(new Probe().takes(even, 3), 198, 0, END, 0, 398, 7);
        Probe x = Probe.of("*1{#a;}");
        x.due("runs 6 0", TOO_LONG).due("ran 1 0", 400).due("ran 2 0", 200).due("ran 3 199", 6).due("ran 3 200", 0);
    }

    private static void calls() {
        says("A call of a method executes the statements of the method with variables of their own, of which the inputs of the"
            + " method are set to the values of the inputs of\nthe call.");
        Probe own = Probe.of("c=+ab;d=*cc;#d;").due("lifts 0 1 0", 1);
        run(own, 2, 3, END, 0, 3, 11, 25);
        Probe swapped = Probe.of("c=-ab;#c;d=-ba;#d;").due("lifts 0 0 1", 2);
        run(swapped, 9, 2, END, 0, 4, 15, 7, -7);
        // The second call must not see what the first one has set: it is left before its d is set.
        Probe twice = Probe.of("*a{?b{!;}c=1;#c;a=0;}a=1;b=1;*a{?b{!;}d=1;#d;a=0;}").due("lifts 1 3 1", 2);
        run(twice, 1, 0, END, 0, 11, 7, 1);

        says("When the method is left, those outputs of the call are set whose outputs of the method are set, to their values.");
        Probe maybe = Probe.of("*a{?b{!;}c=1;#c;a=0;}").due("lifts 1 3 0", 1);
        run(maybe, 1, 1, END, 0, 3, 3);
        run(maybe, 1, 0, END, 0, 6, 7, 1);
        Probe neither = Probe.of("*b{?b{!;}a=1;#a;}*b{?b{!;}c=1;#c;}").due("lifts 1 3 1", 2);
        run(neither, 1, 1, END, 0, 6, 3);
        Probe kept = Probe.of("?b{a=5;}#a;").due("lifts 0 0 0", 1);
        run(kept, 8, 0, END, 0, 2, 3, 8);
        run(kept, 8, 1, END, 0, 3, 3, 5);
        run(Probe.of("*a{c=b;!;}#c;").due("lifts 1 2 0", 1), 1, 7, END, 0, 4, 7, 7);
        run(Probe.of("*a{a=0;^;}").due("lifts 1 2 0", 1), 1, 0, END, 0, 4, 3);
        run(Probe.of("c=4;?a{<c;}#c;").due("lifts 0 1 0", 1), 1, 0, RETURN, 4, 3, 7);
        run(Probe.of("c=4;?a{<c;}#c;").due("lifts 0 1 0", 1), 0, 0, END, 0, 3, 7, 4);

        says("If the method was left by its end, the\nrun goes on behind the call; if it was left by a break, continue or return,"
            + " the call acts like such a statement.");
        run(Probe.of("#1;#2;").due("lifts 0 0 0", 1), 0, 0, END, 0, 2, 3, 1, 2);
        run(Probe.of("#1;#2;").due("lifts 1 1 0", 1), 0, 0, END, 0, 2, 3, 1, 2);
        run(Probe.of("?a{#1;}{#2;}#3;").due("lifts 1 1 0", 1), 1, 0, END, 0, 3, 3, 1, 3);
        run(Probe.of("*a{a=0;#1;}#3;").due("lifts 2 2 0", 1), 1, 0, END, 0, 5, 3, 1, 3);
        Probe inner = Probe.of("*a{*1{?b{!;}#1;b=1;^;}#2;a=0;}#3;").due("lifts 2 4 0", 1);
        run(inner, 1, 1, END, 0, 8, 3, 2, 3);
        run(inner, 1, 0, END, 0, 13, 3, 1, 2, 3);
        Probe next = Probe.of("*a{a=-a1;?b{^;}#a;}#9;").due("lifts 2 2 0", 1);
        run(next, 2, 1, END, 0, 10, 3, 9);
        run(next, 2, 0, END, 0, 10, 3, 1, 0, 9);
        Probe value = Probe.of("*1{?a{<+ab;}#1;!;}#2;").due("lifts 1 1 0", 1);
        run(value, 3, 4, RETURN, 7, 3, 3);
        run(value, 0, 4, END, 0, 5, 3, 1, 2);
        run(Probe.of("?a{<a;}#2;").due("lifts 1 1 0", 1), MIN, 0, RETURN, MIN, 2, 3);

        says("Steps go on being counted, and a failure\nends the run.");
        Probe counted = Probe.of("c=0;*<ca{c=+c1;}#c;").due("lifts 0 1 0", 1);
        run(counted, 198, 0, END, 0, 399, 7, 198);
        run(counted, 199, 0, TOO_LONG, 0, 400, 7);
        run(counted, 200, 0, TOO_LONG, 0, 400, 3);
        Probe divided = Probe.of("#1;?a{#/1b;#2;}#3;").due("lifts 1 1 0", 1);
        run(divided, 1, 0, DIVISION, 0, 3, 3, 1);
        run(divided, 1, 1, END, 0, 5, 3, 1, 1, 2, 3);
        // The call itself is no step, so it is made behind the 400th step, and its first statement is the 401st.
        Probe late = Probe.of("c=0;*<ca{c=+c1;}#7;").due("lifts 3 3 0", 1);
        run(late, 199, 0, TOO_LONG, 0, 400, 7);
        run(late, 198, 0, END, 0, 399, 7, 7);
    }

    private static void answers() {
        says("Returns 0 if it came to its end; 1 if it was ended by a return; 2, 3, 4 for the failures 1, 2, 3.");
        new Probe().due("runs 0 0", END);
        Probe.of("?a{<0;}").due("runs 0 0", END).due("runs 1 0", RETURN).errors(0, 0, 0).due("told 6", 1);
        Probe.of("#/10;").due("runs 0 0", DIVISION).errors(0, 0, 0);
        Probe.of("#%10;").due("runs 0 0", DIVISION);
        Probe.of("#c;").due("runs MIN MAX", NOT_SET).errors(0, 0, 0);
        Probe.of("*1{}").due("runs 0 0", TOO_LONG).errors(0, 0, 0);

        says("Returns a result of the latest run, whatever has been called since.");
        Probe x = Probe.of("#a;c=b;#c;<-03;");
        run(x, 4, 5, RETURN, -3, 4, 7, 4, 5);
        x.takes("#1;#2;#3;", 3).fault("}", 0).due("clear", 1).due("lifts 0 0 0", 1).due("settles 0", 1).due("back", 3);
        x.due("span 0 9 0", NO).due("statement 9 9", BAD).due("type 'a'", 1).due("sure 1 1", 1).due("alike 1 1 0 0", 0);
        results(x, -3, 4, 7, 4, 5);
        run(x, 0, 0, END, 0, 3, 3, 1, 2, 3);
        x.due("back", 2).due("back", 1);
        results(x, 0, 3, 3, 1, 2, 3);
        run(x, 6, 7, RETURN, -3, 4, 7, 6, 7);
        x.due("back", 0).due("told 4", 0);
        run(x, 6, 7, END, 0, 0, 3);

        says("All results are 0 if there was none.");
        new Probe().dues("ran 0", 0, 0, 0).dues("ran 1", 0, 0).dues("ran 2", 0, 0).dues("ran 3", 0, 0, 0).dues("ran 4", 0, 0)
            .due("ran 3 MAX", 0).errors(0, 0, 0);
        Probe.of("c=1;").dues("ran 4", 0).due("ran 1 0", 0);
    }

    private static void whats() {
        says("0: the value of the return, 0 if it was not ended by one;");
        Probe x = Probe.of("?a{<a;}{#/1b;}");
        run(x, MIN, 0, RETURN, MIN, 2, 3);
        run(x, 0, 1, END, 0, 2, 3, 1);
        run(x, -2, 0, RETURN, -2, 2, 3);
        x.errors(0, 0, 0);
        run(x, 0, 0, DIVISION, 0, 2, 3);

        says("1: the number of steps;");
        Probe.of("*a{a=-a1;}").due("runs 0 0", END).due("ran 1 0", 1).due("runs 199 0", END).due("ran 1 0", 399)
            .due("runs 200 0", TOO_LONG).due("ran 1 0", 400).due("ran 1 MAX", 400);

        says("2: how many values were printed; 3: the printed value with index k, 0 if there are not so many;");
        Probe many = Probe.of("*1{a=+a1;" + Edges.times("#a;", 38) + "}");
        many.due("runs 0 0", TOO_LONG).due("ran 1 0", 400).due("ran 2 0", 380);
        many.due("ran 3 0", 1).due("ran 3 37", 1).due("ran 3 38", 2).due("ran 3 379", 10).due("ran 3 380", 0).due("ran 3 MAX", 0);
        Probe most = Probe.of("*1{" + Edges.times("#a;", 39) + "}");
        most.due("runs 7 0", TOO_LONG).due("ran 2 0", 390).due("ran 3 389", 7).due("ran 3 390", 0).due("ran 3 400", 0);
        Probe fewer = Probe.of("#8;*a{#a;a=0;}");
        run(fewer, 6, 0, END, 0, 5, 3, 8, 6);
        run(fewer, 0, 0, END, 0, 2, 3, 8);
        run("#-02;#-03;#-04;", 0, 0, END, 0, 3, 3, -2, -3, -4);

        says("4: the set of the variables of the program that were set at its end (the outputs of a call that was not finished"
            + " are not set by it)");
        run("a=1;b=1;c=1;d=1;e=1;f=1;g=1;h=1;", 0, 0, END, 0, 8, 255);
        run("h=1;<1;", 0, 0, RETURN, 1, 2, 131);
        run("c=1;d=/c0;", 0, 0, DIVISION, 0, 2, 7);
        run("c=1;d=e;", 0, 0, NOT_SET, 0, 2, 7);
        Probe unfinished = Probe.of("c=1;d=+cc;#/da;#d;").due("lifts 0 2 0", 1);
        run(unfinished, 0, 0, DIVISION, 0, 3, 3);
        run(unfinished, 1, 0, END, 0, 4, 11, 2, 2);
        Probe before = Probe.of("d=1;c=/da;d=/1b;#+cd;").due("lifts 1 2 0", 1).signs(1, "dab>dc");
        run(before, 1, 0, DIVISION, 0, 3, 11);
        run(before, 0, 0, DIVISION, 0, 2, 11);
        run(before, 1, 1, END, 0, 4, 15, 2);

        says("`k`: the index for what = 3, 0 or greater; it must not be negative for other values of what either");
        Probe y = Probe.of("#7;<9;").due("runs 0 0", RETURN);
        for (int what = 0; what <= 4; what++) {
            y.due("ran " + what + " -1", BAD).due("ran " + what + " MIN", BAD);
        }
        y.errors(10, 0, 0).due("ran 0 MAX", 9).due("ran 1 5", 2).due("ran 2 MAX", 1).due("ran 3 0", 7).due("ran 3 1", 0)
            .due("ran 4 MAX", 3).errors(10, 0, 0);

        says("Returns that number; BAD if what is out of range, or k is negative.");
        y.due("ran 5 0", BAD).due("ran -1 0", BAD).due("ran MAX 0", BAD).due("ran MIN 0", BAD).due("ran 5 -1", BAD)
            .due("ran -1 -1", BAD).errors(16, 0, 0);
        new Probe().due("ran 5 0", BAD).due("ran 0 -1", BAD).errors(2, 0, 0);
        Probe.of("<-01;").due("runs 0 0", RETURN).due("ran 0 0", NONE).errors(0, 0, 0);
    }

    public static void main(String[] args) {
        values();
        statements();
        failures();
        calls();
        answers();
        whats();
        Edges.finish();
    }
}
