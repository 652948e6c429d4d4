/** The sentences on spans: promises 9 to 13, and what the document says of paths, exits, inputs and outputs. */
public final class SpanEdgeTest {
    private static final int NONE = Edges.NONE, BAD = Edges.BAD, NO = Edges.NO;

    private SpanEdgeTest() {
    }

    private static void says(String words) {
        Edges.says(words);
    }

    /** The set of these letters. */
    private static int set(String letters) {
        int set = 0;
        for (char c : letters.toCharArray()) {
            set |= 1 << c - 'a';
        }
        return set;
    }

    private static void exits(String program, String span, int want) {
        Probe.of(program).due("span " + span + " 0", want);
    }

    private static void inputs(String program, String span, String letters) {
        Probe.of(program).due("span " + span + " 1", set(letters)).listed("hands " + span + " 0", letters);
    }

    private static void outputs(String program, String span, String letters) {
        Probe.of(program).due("span " + span + " 2", set(letters)).listed("hands " + span + " 1", letters);
    }

    private static void barred(String program, String span, int want) {
        Probe.of(program).due("span " + span + " 3", want);
    }

    private static void alive(Probe x, String spanAndExit, String letters) {
        for (char c = 'a'; c <= 'h'; c++) {
            x.due("live " + spanAndExit + " " + (c - 'a'), letters.indexOf(c) >= 0 ? 1 : 0);
        }
    }

    private static void sureOnly(Probe x, int k, String letters) {
        for (char c = 'a'; c <= 'h'; c++) {
            x.due("sure " + k + " " + (c - 'a'), letters.indexOf(c) >= 0 ? 1 : 0);
        }
    }

    private static void alike(String program, String span, int... starts) {
        Probe x = Probe.of(program).due("alike " + span + " 0 0", starts.length);
        for (int k = 0; k < starts.length; k++) {
            x.due("alike " + span + " 1 " + k, starts[k]);
        }
        x.due("alike " + span + " 1 " + starts.length, NONE);
    }

    private static void extents() {
        says("A span (i, j) consists of statement i, statement j, which is in the same block and not before i,"
            + " all statements between them in this block, and all that is inside of these.");
        String program = "#1;?a{#2;#3;}{#4;}#5;*b{#6;}";
        int[] block = {0, 0, 1, 1, 2, 0, 0, 3};
        Probe x = Probe.of(program);
        for (int i = -2; i <= 9; i++) {
            for (int j = -2; j <= 9; j++) {
                boolean inside = i >= 0 && i < 8 && j >= i && j < 8;
                x.due("span " + i + " " + j + " 0", inside && block[i] == block[j] ? 1 : NO);
            }
        }
        inputs("c=1;d=1;?a{#c;}{*d{#b;}}#2;", "2 6", "acdb");
        inputs("c=1;d=1;?a{#c;}{*d{#b;}}#2;", "6 6", "");
        inputs("c=1;#a;#b;#c;", "1 2", "ab");
        inputs("c=1;#a;#b;#c;", "1 3", "abc");

        says("Paths are possible courses of a run, where at each if and at each evaluation of a loop expression both ways are"
            + " possible, whatever the expression is.");
        exits("?1{<1;}#1;", "0 0", 9);
        exits("?0{<1;}#1;", "0 0", 9);
        exits("*0{<1;}#1;", "0 0", 9);
        exits("*1{}#1;", "0 1", 1);
        exits("?=aa{<1;}{<2;}", "0 0", 8);
        inputs("?0{#b;}", "0 0", "b");
        inputs("*0{#b;}", "0 0", "b");
        inputs("?1{}{#b;}", "0 0", "b");
        barred("?1{c=1;}#c;", "2 2", 3);
        barred("*1{c=1;}#c;", "2 2", 3);
        outputs("c=0;d=1;?0{#c;}", "0 0", "c");
        Probe.of("?1{c=1;}#c;").due("sure 2 2", 0);

        says("A statement\nreads the variables of its expression, then an assignment sets its variable.");
        inputs("c=1;c=+c1;#c;", "1 1", "c");
        inputs("c=1;c=+a1;#c;", "1 1", "a");
        inputs("c=+ab;#c;", "0 1", "ab");
        alive(Probe.of("#1;c=c;#c;"), "0 0 1", "c");
        alive(Probe.of("#1;c=1;#c;"), "0 0 1", "");
        Probe.of("c=c;#c;").due("sure 0 2", 0).due("sure 1 2", 1);
    }

    private static void callsOnPaths() {
        says("A call reads its inputs; then each exit of its method is possible; for an exit,\nthe call sets those of its outputs"
            + " whose outputs of the method are also inputs of the method, or are set on each path in the method to this exit.");
        Probe plain = Probe.of("#1;c=b;#c;").due("lifts 1 1 0", 1);
        alive(plain, "0 0 1", "b");
        alive(plain, "1 1 1", "c");
        sureOnly(plain, 1, "ab");
        sureOnly(plain, 2, "abc");
        // e is set when the method is left by the break or the continue, and not when it is left by its end.
        for (String jump : new String[] {"!", "^"}) {
            Probe x = Probe.of("*a{#1;?b{e=1;" + jump + ";}e=2;}#e;").due("lifts 2 2 0", 1).signs(2, "b>e");
            x.due("live 1 1 1 4", 0).due("live 1 1 1 0", 1).due("sure 3 4", 0).due("sure 4 4", 0);
            x.due("span 2 2 0", jump.equals("!") ? 3 : 5).due("span 1 2 1", 2);
        }
        // c is set when the method is left by its end, and not when it is left by the break.
        Probe y = Probe.of("*a{?b{!;}c=1;#c;}#1;").due("lifts 1 3 0", 1).signs(1, "b>c");
        y.due("sure 2 2", 1).due("sure 3 2", 0).due("live 1 1 1 2", 1).due("live 1 1 2 2", 0);
        // An output that only some paths in the method set is an input of it, and so it is always set.
        Probe z = Probe.of("c=1;?b{c=2;}#c;").due("lifts 1 1 0", 1).signs(1, "bc>c");
        z.due("sure 2 2", 1).due("span 1 2 1", 6).due("live 0 0 1 2", 1);
        // The same when there are other methods, and beside assignments to the variables with their numbers.
        Probe others = Probe.of("c=1;#c;#1;").due("lifts 0 0 0", 1).due("lifts 2 2 0", 1).due("sure 1 2", 1).due("span 1 1 3", 0);
        others.takes("a=1;b=2;c=3;#+a+bc;#1;#2;#3;", 7).due("lifts 4 4 0", 1).due("lifts 5 5 0", 1).due("lifts 6 6 0", 1);
        others.dues("span 0 2", 1, 0, 7, 0).due("sure 3 2", 1).due("live 0 0 1 1", 0).due("live 2 2 1 1", 1);
        Probe ended = Probe.of("#1;?a{<b;}{<c;}#d;").due("span 1 1 3", 3);
        ended.takes("#1;?a{<b;}{<1;}#d;", 5).due("lifts 1 1 0", 1);
        alive(ended, "0 0 1", "ab");
        ended.due("span 0 2 0", 8).due("span 0 2 1", 3);
        sureOnly(ended, 2, "abcdefgh");
    }

    private static void exitsOfSpans() {
        says("The exits of a span are those that a path in it, from its beginning, comes to: 1 the end, behind its last statement;"
            + " 2 a break and 4 a continue, each of a loop\nthat is not in the span; 8 a return.");
        exits("#1;", "0 0", 1);
        exits("<1;", "0 0", 8);
        exits("*1{!;}", "1 1", 2);
        exits("*1{^;}", "1 1", 4);
        exits("*1{!;^;}", "0 0", 1);
        exits("*1{?a{!;}{^;}<1;}", "1 1", 6);
        exits("*1{?a{!;}{^;}<1;}", "1 4", 6);
        exits("*1{?a{!;}{^;}<1;}", "4 4", 8);
        exits("*1{?a{!;}?b{^;}?1{<1;}}", "1 5", 15);
        exits("*1{?a{!;}?b{^;}?1{<1;}}", "1 1", 3);
        exits("*1{?a{!;}?b{^;}?1{<1;}}", "3 3", 5);
        exits("*1{?a{!;}?b{^;}?1{<1;}}", "1 3", 7);
        exits("*1{?a{!;}?b{^;}?1{<1;}}", "0 0", 9);
        exits("<1;#1;", "0 1", 8);
        exits("<1;#1;", "1 1", 1);
        exits("?a{<1;}{<2;}#1;", "0 3", 8);
        exits("?a{<1;}{}#1;", "0 2", 9);
        exits("?a{<1;}#1;", "0 0", 9);
        exits("*1{!;#1;^;<1;}", "1 4", 2);
        exits("*1{!;#1;^;<1;}", "2 4", 4);
        exits("*1{*1{!;}}", "1 1", 1);
        exits("*1{*1{!;}!;}", "1 3", 2);
        exits("*1{*1{?a{^;}<1;}}", "1 1", 9);
        exits("*1{*1{?a{!;}}^;}", "2 2", 3);
        exits("*1{*1{}^;}", "1 2", 4);
        Probe x = Probe.of("*1{?a{!;}#1;}").due("lifts 1 1 0", 1);
        x.due("span 1 1 0", 3).due("span 1 2 0", 3).due("span 0 0 0", 1);
        Probe.of("<a;#1;").due("lifts 0 0 0", 1).due("span 0 1 0", 8).due("span 0 0 0", 8).due("span 1 1 0", 1);
        Probe.of("*1{?a{^;}<b;}").due("lifts 1 3 0", 1).due("span 1 1 0", 12).due("span 0 0 0", 9);

        says("A variable is live at an exit if some path of the program from there on reads it without setting it before;"
            + " there means for 1\nbehind the span, for 2 behind the innermost loop around the span,"
            + " for 4 at the expression of this loop; at 8 no variable is live.");
        Probe y = Probe.of("*b{?c{!;}?d{^;}?e{<f;}c=1;d=1;e=1;}#g;#f;").due("span 1 5 0", 15);
        alive(y, "1 5 1", "bfg");
        alive(y, "1 5 2", "fg");
        alive(y, "1 5 4", "bcdefg");
        alive(y, "1 5 8", "");
        alive(y, "0 0 1", "fg");
        alive(y, "10 11 1", "");
        Probe z = Probe.of("*a{*b{?c{!;}{^;}}#d;<d;}#e;");
        alive(z, "2 2 2", "d");
        alive(z, "2 2 4", "bcd");
        alive(z, "1 1 1", "d");
        alive(Probe.of("<a;#a;"), "0 0 8", "");
        alive(Probe.of("#1;?a{c=1;}#c;"), "0 0 1", "ac");
        alive(Probe.of("#1;?a{c=1;}{c=2;}#c;"), "0 0 1", "a");
        alive(Probe.of("#1;c=d;#c;"), "0 0 1", "d");
        alive(Probe.of("#1;<1;#c;"), "0 0 1", "");
        alive(Probe.of("*a{#1;#b;b=1;}"), "3 3 1", "ab");
        alive(Probe.of("*a{#1;b=1;#b;}"), "3 3 1", "a");
        alive(Probe.of("*a{#1;#b;}"), "1 1 1", "ab");
        alive(Probe.of("*a{#1;?b{}{<1;}}"), "1 1 1", "ab");
        alive(Probe.of("*a{#1;?b{<1;}}"), "1 1 1", "ab");
        alive(Probe.of("*a{#1;*b{}}"), "1 1 1", "ab");
        alive(Probe.of("#1;*a{?b{}{<1;}}#c;"), "0 0 1", "abc");
        Probe later = Probe.of("*a{#1;}#h;");
        alive(later, "1 1 1", "ah");
        alive(later.takes("*a{#1;}#1;", 3), "1 1 1", "a");
        alive(later.takes("#1;#h;", 2), "0 0 1", "h");
        alive(later.takes("#1;*a{}", 2), "0 0 1", "a");
        alive(later.takes("#1;*a{#1;}#h;", 4), "0 0 1", "ah");
        alive(later.takes("#1;*a{#1;}#1;", 4), "0 0 1", "a");
        alive(Probe.of("#1;?a{}{<1;}#c;"), "0 0 1", "ac");
        alive(Probe.of("#1;?a{<1;}{}#c;"), "0 0 1", "ac");
    }

    private static void inputsAndOutputs() {
        says("The outputs of a span are the variables that are set by an assignment (or are outputs of a call) anywhere in it,"
            + " and are live at one of its exits.");
        outputs("c=1;d=1;#c;", "0 1", "c");
        outputs("c=1;d=1;#c;", "1 1", "");
        outputs("c=1;d=1;#c;", "0 2", "");
        outputs("c=1;<c;", "0 1", "");
        for (char c = 'a'; c <= 'h'; c++) {
            outputs(c + "=1;#1;", "0 0", "");
        }
        outputs("c=1;c=2;#c;", "0 0", "");
        outputs("e=0;*a{!;e=1;}#e;", "1 1", "e");
        outputs("e=0;?a{<1;e=1;}#e;", "1 1", "e");
        outputs("e=0;?a{}{?b{e=1;}}#e;", "1 1", "e");
        outputs("e=0;#a;#e;", "1 1", "");
        outputs("*a{c=b;?b{!;}c=1;<c;}#c;", "1 2", "c");
        outputs("*a{c=b;?b{!;}c=1;<c;}", "1 2", "");
        outputs("*c{c=b;?b{^;}<1;}", "1 2", "c");
        outputs("*a{#b;b=1;}", "2 2", "b");
        outputs("a=1;b=2;c=3;d=4;e=5;f=6;g=7;h=8;#+a+b+c+de;#+f+gh;", "0 7", "abcdefgh");
        Probe x = Probe.of("c=1;#c;").due("lifts 0 0 0", 1);
        x.due("span 0 0 2", 4).listed("hands 0 0 1", "c").due("span 0 1 2", 0).due("span 1 1 2", 0);
        Probe y = Probe.of("c=1;d=2;?a{#c;}{#d;}").due("lifts 0 1 0", 1).signs(0, ">cd").due("span 0 0 2", 12);
        y.due("span 1 1 1", 13).due("span 0 1 2", 0);

        says("The inputs of a span\nare the variables that a path in it, from its beginning, reads without setting them before,"
            + " and those outputs that a path in it, from its beginning to an exit\nat which the output is live, does not set.");
        inputs("#1;", "0 0", "");
        inputs("c=1;#c;", "0 1", "");
        inputs("?a{c=1;}#c;", "0 2", "ac");
        inputs("?a{c=1;}{c=2;}#c;", "0 3", "a");
        inputs("<1;#c;", "0 1", "");
        inputs("*1{!;#c;}", "0 0", "");
        inputs("*a{#c;c=1;}", "0 0", "ac");
        inputs("*a{c=1;#c;}", "0 0", "a");
        inputs("*a{?b{#c;}c=1;}", "1 1", "bc");
        inputs("?a{c=1;}#c;", "0 0", "ac");
        inputs("?a{c=1;}#b;", "0 0", "a");
        inputs("*a{c=1;}#c;", "0 0", "ac");
        inputs("e=0;*a{!;e=1;}#e;", "1 1", "ae");
        inputs("e=0;*a{!;e=1;}", "1 1", "a");
        inputs("?a{}c=1;#c;", "0 1", "a");
        inputs("?a{}{}c=1;#c;", "0 1", "a");
        inputs("*a{?b{}}c=1;#c;", "0 2", "ab");
        inputs("*a{*b{}}c=1;#c;", "0 2", "ab");
        // c is not set on the way to the break, where it is live in the first program only
        inputs("c=0;*a{?b{!;}c=1;#c;}#c;", "2 4", "bc");
        inputs("c=0;*a{?b{!;}c=1;#c;}", "2 4", "b");
        // the same for a continue, and for a return, at which nothing is live
        inputs("*<ac{?b{^;}c=1;!;}", "1 3", "bc");
        inputs("*<ab{?b{^;}c=1;#c;}", "1 3", "b");
        inputs("?b{<1;}c=1;#c;", "0 2", "b");
        inputs("#+a+b+c+d+ef;#+gh;", "0 1", "abcdefgh");
        Probe z = Probe.of("*a{?b{!;}c=1;#c;}").due("lifts 1 3 0", 1);
        z.due("span 1 1 1", 2).due("span 1 2 1", 2).due("span 0 0 1", 3);

        says("Both are ordered by the first occurrence in the text of the span (in an assignment the expression comes before the\n"
            + "variable; in a call the inputs come before the outputs).");
        inputs("e=1;f=1;g=1;h=1;?h{#g;}{#f;}#e;", "4 7", "hgfe");
        inputs("#+ba;#a;", "0 1", "ba");
        inputs("c=1;#b;#c;#a;", "1 3", "bca");
        inputs("#-bb;#-ab;", "0 1", "ba");
        inputs("d=0;c=0;?a{c=d;}#+cd;", "2 2", "adc");
        inputs("c=0;d=0;?a{d=c;c=1;}{#b;}#+cd;", "2 2", "acdb");
        outputs("h=b;c=1;h=a;#+ch;", "0 2", "hc");
        outputs("c=1;d=1;d=+cd;c=d;#+cd;", "2 3", "cd");
        outputs("c=1;d=1;c=+dc;d=c;#+cd;", "2 3", "dc");
        outputs("?a{h=1;}{g=1;}f=h;#+f+gh;", "0 3", "hgf");
        Probe.of("h=a;c=h;h=1;#+ch;").due("lifts 1 1 0", 1).signs(1, "h>c").listed("hands 1 2 1", "hc").listed("hands 1 2 0", "h");
        Probe.of("d=b;c=+da;#+cd;").due("lifts 1 1 0", 1).signs(1, "da>c").listed("hands 1 2 0", "da").listed("hands 0 1 0", "ba");
    }

    private static void bars() {
        says("A span is barred, for the first of these reasons: 1, it contains a call; 2, it has more than 4 inputs or more than"
            + " 3 outputs; 3, one of its inputs is not an argument\nof the program, and some path of the program from its beginning"
            + " to the beginning of the span does not set it; 0 means that it is not barred.");
        Probe x = Probe.of("#1;?a{#2;*b{#3;}}#4;").due("lifts 4 4 0", 1);
        x.due("span 4 4 3", 1).due("span 3 3 3", 1).due("span 1 1 3", 1).due("span 0 5 3", 1).due("span 0 0 3", 0).due("span 2 2 3", 0)
            .due("span 5 5 3", 0);
        Probe.of("#1;#+c+d+e+fg;").due("lifts 0 0 0", 1).due("span 0 1 3", 1).due("span 1 1 3", 2);
        Probe.of("#1;#c;").due("lifts 0 0 0", 1).due("span 0 1 3", 1).due("span 1 1 3", 3);
        String four = "c=1;d=1;e=1;f=1;";
        barred(four + "#+c+d+ef;", "4 4", 0);
        barred(four + "#+a+c+d+ef;", "4 4", 2);
        barred(four + "#+a+b+c+d+ef;", "4 4", 2);
        barred(four + "#+c+d+eh;", "4 4", 3);
        barred("#+c+d+e+fg;", "0 0", 2);
        barred(four + "#+c+de;", "0 2", 0);
        barred(four + "#+c+d+ef;", "0 3", 2);
        barred(four + "#+c+d+ef;", "0 2", 0);
        barred("a=1;b=1;c=1;d=1;#+a+b+cd;", "0 3", 2);
        barred("g=a;h=b;c=+a+b+gh;d=c;e=c;#+c+de;", "2 4", 0);
        barred("g=a;h=b;c=+a+b+gh;d=c;e=c;f=c;#+c+d+ef;", "2 5", 2);
        barred("#+ab;", "0 0", 0);
        barred("#c;", "0 0", 3);
        barred("#+ah;", "0 0", 3);
        barred("?a{c=1;}#c;", "2 2", 3);
        barred("?a{c=1;}{c=2;}#c;", "3 3", 0);
        barred("?a{c=1;}{<1;}#c;", "3 3", 0);
        barred("*a{c=1;}#c;", "2 2", 3);
        barred("*a{c=1;#c;}", "2 2", 0);
        barred("*a{#c;c=1;}", "1 1", 3);
        barred("?a{c=1;}#c;", "0 0", 3);
        barred("c=c;#c;", "0 1", 3);
        barred("c=2;?a{c=1;}#c;", "1 1", 0);
        barred("<1;#c;", "1 1", 0);
        barred("*1{!;#c;}", "2 2", 0);
        barred("c=1;#c;", "0 1", 0);
        Probe.of("c=1;#c;").due("lifts 0 0 0", 1).due("span 1 1 3", 0);
        Probe.of("*a{?b{!;}c=1;#c;}#c;").due("span 1 3 3", 3);
    }

    private static void spanCalls() {
        says("`what`: 0: the sum of its exits; 1: the set of its inputs; 2: the set of its outputs; 3: why it is barred, 0 to 3");
        Probe.of("*a{?b{!;}c=1;#c;}").dues("span 1 3", 3, 2, 4, 0).errors(0, 0, 0);
        Probe.of("h=h;#h;").dues("span 0 0", 1, 128, 128, 3);

        says("Returns the property; BAD if what is out of range; NO if there is no such span.");
        Probe x = Probe.of("#1;#2;");
        for (String what : new String[] {"-1", "4", "MIN", "MAX"}) {
            x.due("span 0 0 " + what, BAD).due("span 1 0 " + what, BAD).due("span 7 7 " + what, BAD);
        }
        x.errors(12, 0, 0);
        for (String span : new String[] {"1 0", "0 2", "2 2", "-1 0", "-1 -1", "MIN MAX", "MAX MAX", "MIN MIN", "0 MAX", "MIN 0"}) {
            x.dues("span " + span, NO, NO, NO, NO);
        }
        x.errors(12, 40, 0);
        new Probe().due("span 0 0 0", NO).due("span -1 -1 0", NO).due("span 0 -1 0", NO).due("span 0 0 4", BAD).errors(1, 3, 0);

        says("Returns an input or output of a span.");
        Probe y = Probe.of("c=+ba;d=c;#+cd;").listed("hands 0 1 0", "ba").listed("hands 0 1 1", "cd").listed("hands 2 2 0", "cd");
        y.listed("hands 2 2 1", "");
        Probe.of("#+f+e+d+c+ba;").listed("hands 0 0 0", "fedcba");

        says("`what`: 0: inputs; 1: outputs");
        y.due("hands 0 1 0 0", 1).due("hands 0 1 1 0", 2).due("hands 0 1 2 0", BAD).due("hands 0 1 -1 0", BAD).due("hands 0 1 MAX 0", BAD)
            .due("hands 0 1 MIN 0", BAD).errors(4, 0, 0);

        says("`k`: the index, 0 or greater");
        y.due("hands 0 1 0 0", 1).due("hands 0 1 0 1", 0).due("hands 0 1 0 -1", BAD).due("hands 0 1 1 -1", BAD).due("hands 0 1 1 MIN", BAD)
            .due("hands 2 2 1 -1", BAD).errors(8, 0, 0);

        says("Returns the variable; NONE if there are not so many; BAD if what is out of range, or k is negative; NO if there is no"
            + " such span.");
        y.due("hands 0 1 0 2", NONE).due("hands 0 1 1 2", NONE).due("hands 0 1 0 MAX", NONE).due("hands 2 2 1 0", NONE).errors(8, 0, 0);
        y.due("hands 1 0 2 0", BAD).due("hands 9 9 0 -1", BAD).due("hands 0 1 2 -1", BAD).errors(11, 0, 0);
        y.due("hands 1 0 0 0", NO).due("hands 0 3 1 9", NO).due("hands -1 -1 0 MAX", NO).errors(11, 3, 0);
        new Probe().due("hands 0 0 0 0", NO).due("hands -1 -1 1 0", NO).errors(0, 2, 0);
    }

    private static void liveCalls() {
        says("`exit`: the exit: 1, 2, 4 or 8");
        Probe x = Probe.of("*a{?a{!;}?a{^;}?a{<1;}}").due("span 1 5 0", 15);
        for (int exit = -17; exit <= 17; exit++) {
            boolean good = exit == 1 || exit == 2 || exit == 4 || exit == 8;
            x.due("live 1 5 " + exit + " 0", good ? exit == 1 || exit == 4 ? 1 : 0 : BAD);
        }
        x.due("live 1 5 MIN 0", BAD).due("live 1 5 MAX 0", BAD).due("live 1 5 32 0", BAD).errors(34, 0, 0);

        says("`v`: the variable, 0 to 7");
        Probe y = Probe.of("#1;#+ah;");
        alive(y, "0 0 1", "ah");
        y.due("live 0 0 1 8", BAD).due("live 0 0 1 -1", BAD).due("live 0 0 1 MAX", BAD).due("live 0 0 1 MIN", BAD).errors(4, 0, 0);

        says("Returns 1 if it is live, 0 if not; BAD if exit or v is not as described; NO if there is no such span, or it does not"
            + " have this exit.");
        Probe z = Probe.of("*a{!;}#a;<a;");
        z.due("live 1 1 2 0", 1).due("live 1 1 2 1", 0).due("live 1 1 1 0", NO).due("live 1 1 4 0", NO).due("live 1 1 8 0", NO);
        z.due("live 0 0 2 0", NO).due("live 3 3 8 0", 0).due("live 3 3 1 0", NO).due("live 2 2 8 0", NO).due("live 2 2 1 0", 1);
        z.due("live 1 2 1 0", NO).due("live 4 4 1 0", NO).due("live -1 0 1 0", NO).errors(0, 9, 0);
        z.due("live 1 2 3 0", BAD).due("live 4 4 1 8", BAD).due("live 1 1 1 8", BAD).due("live 1 1 0 0", BAD).errors(4, 9, 0);
    }

    private static void sureCalls() {
        says("Tells whether a variable is set on each path of the program from its beginning to a statement, before it is executed"
            + " (arguments always are; all\nvariables are, if there is no such path).");
        sureOnly(Probe.of("#1;"), 0, "ab");
        Probe x = Probe.of("h=1;*b{c=h;?a{d=1;^;}e=1;!;f=1;}?a{g=1;}{g=2;<1;#1;}#c;");
        sureOnly(x, 0, "ab");
        sureOnly(x, 1, "abh");
        sureOnly(x, 2, "abh");
        sureOnly(x, 3, "abch");
        sureOnly(x, 4, "abch");
        sureOnly(x, 5, "abcdh");
        sureOnly(x, 6, "abch");
        sureOnly(x, 7, "abceh");
        sureOnly(x, 8, "abcdefgh");
        sureOnly(x, 9, "abh");
        sureOnly(x, 10, "abh");
        sureOnly(x, 12, "abgh");
        sureOnly(x, 13, "abcdefgh");
        sureOnly(x, 14, "abgh");
        sureOnly(Probe.of("?a{<1;}{<2;}#1;?b{#2;}"), 4, "abcdefgh");
        sureOnly(Probe.of("c=d;d=1;"), 1, "abc");
        // a and b are arguments, also where no path sets them
        sureOnly(Probe.of("*1{?b{a=1;}#1;}"), 3, "ab");

        says("`v`: the variable, 0 to 7");
        Probe.of("h=1;#1;").due("sure 0 0", 1).due("sure 0 7", 0).due("sure 1 7", 1).due("sure 1 8", BAD).due("sure 1 -1", BAD)
            .due("sure 1 32", BAD).due("sure 1 MAX", BAD).due("sure 1 MIN", BAD).errors(5, 0, 0);
        Probe.of("<1;#1;").due("sure 1 7", 1).due("sure 1 8", BAD).due("sure 1 -1", BAD);

        says("Returns 1 if so, 0 if not; BAD if there is no such statement, or v is out of range.");
        Probe y = Probe.of("c=1;#c;").due("sure 0 2", 0).due("sure 1 2", 1).errors(0, 0, 0);
        y.due("sure 2 0", BAD).due("sure -1 0", BAD).due("sure MAX 0", BAD).due("sure MIN 0", BAD).due("sure 0 8", BAD)
            .due("sure 0 -1", BAD).due("sure 0 MAX", BAD).due("sure 0 MIN", BAD).due("sure 2 8", BAD).errors(9, 0, 0);
        new Probe().due("sure 0 0", BAD).due("sure -1 0", BAD);
        y.takes("#1;", 1).due("sure 1 0", BAD).due("back", 1).due("sure 1 0", 1);
    }

    private static void likeness() {
        says("Another span is alike to a span if it has as many statements of a block, contains no call, and has the same statements"
            + " except that variables are replaced one to\none by others");
        alike("#1;#1;?a{#1;}", "0 1");
        alike("?a{#1;}#1;?b{#1;#1;}", "0 2");
        alike("?a{}?a{#1;}#1;?b{?b{}}#1;#1;", "0 3");
        alike("#1;#1;?a{#1;}{#1;}#1;", "0 1");
        alike("#1;#1;?a{}{#1;#1;}", "0 1", 3);
        alike("*a{#1;#1;?b{#1;}#1;}", "1 2");
        alike("?a{#1;}{}?b{}{#1;}", "0 0");
        alike("#1;?a{#1;}{#1;}*b{#1;}", "0 0", 2, 3, 5);
        alike("#+ab;#+ba;#+aa;#+bb;#+a1;#-ab;#*ab;#+ab;", "0 0", 1, 7);
        alike("#+aa;#+bb;#+ab;", "0 0", 1);
        alike("#+ab;#a;#+ab;#b;#+ba;#b;", "0 1", 4);
        alike("#1;#2;#1;<1;", "0 0", 2);
        alike("c=1;<c;c=1;#c;d=2;d=1;<d;", "0 1", 5);
        alike("c=a;#c;a=b;#a;b=b;#b;", "0 0", 2);
        alike("*1{!;^;!;^;}", "1 1", 3);
        alike("?a{#1;}?b{}{#1;}?b{#1;}*b{#1;}", "0 0", 4);
        Probe x = Probe.of("#1;#1;#1;").due("lifts 1 1 0", 1);
        x.due("alike 0 0 0 0", 1).due("alike 0 0 1 0", 2).due("alike 1 1 0 0", 0).due("alike 1 1 2 0", NONE);
        Probe.of("#1;?a{#1;}?a{#1;}").due("lifts 2 2 0", 1).due("alike 1 1 0 0", 0).due("alike 3 3 0 0", 0).due("alike 4 4 1 0", 0);

        says("(an if with an empty else block is not the same as one without an else block)");
        alike("?a{#1;}{}?b{#1;}", "0 0");
        alike("?a{#1;}?b{#1;}{}", "0 0");
        alike("?a{#1;}{}?b{#1;}{}", "0 0", 2);
        alike("?a{}?b{}{}?b{}", "0 0", 2);
        alike("*a{?a{}}*b{?b{}{}}*b{?b{}}", "0 0", 4);
        Probe y = Probe.of("?a{}?b{}{}?b{}#1;").due("lifts 3 3 0", 1).due("alike 0 0 0 0", 1).due("alike 0 0 1 0", 2);
        y.due("settles 0", 1).due("alike 0 0 0 0", 1).due("lifts 1 1 0", 1).due("settles 0", 1).due("alike 1 1 0 0", 0);

        says("if it is not barred (the first span may be);");
        alike("#a;#c;#b;", "0 0", 2);
        alike("#c;#a;#d;", "0 0", 1);
        alike("c=1;d=1;e=1;#+a+b+c+de;#+b+a+d+ec;", "3 3");
        alike("#+c+d+e+fg;#+a+b+c+de;", "0 0");

        says("if it has the same exits; and if its\ninputs and its outputs, in their order, are those that replace the inputs and"
            + " outputs of the first span.");
        alike("c=1;d=1;#d;", "0 0");
        alike("c=1;d=1;#d;", "1 1");
        alike("c=1;d=1;#+cd;", "0 0", 1);
        alike("c=0;d=0;?a{c=1;}?a{d=1;}#d;", "2 2");
        alike("c=0;d=0;?a{c=1;}?a{d=1;}#+cd;", "2 2", 4);
        alike("*1{?a{!;}#1;*1{?b{!;}}}", "1 1", 5);
        alike("?a{c=b;#c;}c=b;#c;#c;", "1 2");
        alike("?a{c=b;#c;}d=a;#d;", "1 2", 3);
    }

    private static void alikeCalls() {
        says("Finds spans that are alike to a span: the program is searched from its beginning, by their first statements, and each"
            + " one is taken that has no\nstatement in common with the span or with those taken before.");
        alike("#1;#1;#1;#1;#1;", "0 0", 1, 2, 3, 4);
        alike("#1;#1;#1;#1;#1;", "4 4", 0, 1, 2, 3);
        alike("#1;#1;#1;#1;#1;", "1 2", 3);
        alike("#1;#1;#1;#1;#1;", "2 3", 0);
        alike("#1;#1;#1;#1;#1;", "3 4", 0);
        alike("#1;#1;#1;#1;#1;#1;#1;", "5 6", 0, 2);
        alike("#1;#1;#1;#1;#1;#1;", "2 3", 0, 4);
        alike("#1;#1;#1;", "0 1");
        alike("#1;#1;#1;", "0 2");
        alike("#a;#b;#c;#a;#b;", "0 1", 3);
        alike("?a{?a{}}?b{}?b{}", "1 1", 2, 3);
        alike("?a{?a{#a;}}?b{#b;}", "1 1", 3);
        alike("#b;?a{#a;}#b;", "2 2", 0, 3);
        alike(Edges.times("#1;", 40), "20 20", numbersBut20());
        alike(Edges.times("#1;", 38) + "*1{#1;}", "0 9", 10, 20);
        alike(Edges.times("#1;", 38) + "*1{#1;}", "0 1", 2, 4, 6, 8, 10, 12, 14, 16, 18, 20, 22, 24, 26, 28, 30, 32, 34, 36);

        says("`what`: 0: how many are taken; 1: the first statement of the one with index k, NONE if there are not so many; 2: the"
            + " variable that replaces variable k in the first one of them, NONE if the span does not contain variable k,"
            + " or none is taken");
        Probe x = Probe.of("c=+a1;d=+b1;g=+c1;h=d;#+c+d+gh;");
        x.due("alike 0 0 0 0", 2).dues("alike 0 0 1", 1, 2, NONE).due("alike 0 0 1 MAX", NONE);
        x.dues("alike 0 0 2", 1, NONE, 3, NONE, NONE, NONE, NONE, NONE);
        x.dues("alike 2 2 2", NONE, NONE, 0, NONE, NONE, NONE, 2, NONE);
        x.due("alike 3 3 0 0", 0).due("alike 3 3 1 0", NONE).dues("alike 3 3 2", NONE, NONE, NONE, NONE, NONE, NONE, NONE, NONE);
        Probe.of("#a;#a;#b;").dues("alike 0 0 2", 0, NONE).errors(0, 0, 0);
        Probe.of("#1;#1;").due("alike 0 0 0 0", 1).dues("alike 0 0 2", NONE, NONE, NONE, NONE, NONE, NONE, NONE, NONE);
        Probe.of("h=1;?a{h=b;}{#h;}?b{h=a;}{#h;}#h;").dues("alike 1 1 2", 1, 0, NONE, NONE, NONE, NONE, NONE, 7);

        says("`k`: the index or the variable; 0 or greater, also if what is 0; at most 7 if what is 2");
        Probe y = Probe.of("#h;#a;");
        y.due("alike 0 0 0 MAX", 1).due("alike 0 0 1 8", NONE).due("alike 0 0 1 MAX", NONE).due("alike 0 0 2 7", 0).errors(0, 0, 0);
        for (int what = 0; what <= 2; what++) {
            y.due("alike 0 0 " + what + " -1", BAD).due("alike 0 0 " + what + " MIN", BAD);
        }
        y.due("alike 0 0 2 8", BAD).due("alike 0 0 2 MAX", BAD).errors(8, 0, 0);

        says("Returns that number; BAD if what or k is out of range; NO if there is no such span.");
        y.due("alike 0 0 3 0", BAD).due("alike 0 0 -1 0", BAD).due("alike 0 0 MAX 0", BAD).due("alike 0 0 MIN 0", BAD);
        y.due("alike 1 0 3 0", BAD).due("alike 1 0 2 8", BAD).due("alike 5 5 0 -1", BAD).errors(15, 0, 0);
        y.due("alike 1 0 0 0", NO).due("alike 0 2 1 9", NO).due("alike -1 -1 2 7", NO).due("alike MIN MAX 0 0", NO).errors(15, 4, 0);
    }

    private static int[] numbersBut20() {
        int[] numbers = new int[39];
        for (int i = 0; i < 39; i++) {
            numbers[i] = i < 20 ? i : i + 1;
        }
        return numbers;
    }

    public static void main(String[] args) {
        extents();
        callsOnPaths();
        exitsOfSpans();
        inputsAndOutputs();
        bars();
        spanCalls();
        liveCalls();
        sureCalls();
        likeness();
        alikeCalls();
        Edges.finish();
    }
}
