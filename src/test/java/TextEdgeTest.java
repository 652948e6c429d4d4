/** The sentences on texts and on the programs that are read from them: promises 1 to 6, and the language. */
public final class TextEdgeTest {
    private static final int NONE = Edges.NONE, BAD = Edges.BAD, FULL = Edges.FULL;
    private static final String VARIABLES = "abcdefgh", DIGITS = "0123456789", OPERATORS = "+-*/%<=";
    private static final String SYMBOLS = DIGITS + VARIABLES + OPERATORS;
    private static final String STARTS = VARIABLES + "#<?*";

    private TextEdgeTest() {
    }

    private static String times(String part, int n) {
        return Edges.times(part, n);
    }

    private static void says(String words) {
        Edges.says(words);
    }

    /**
     * Puts each byte behind a beginning of a text. Behind those of goOn the text ends too early, behind those of
     * complete it is a program with so many statements, and all the others are its fault.
     */
    private static void next(String beginning, String goOn, String complete, int statements) {
        for (char c = 0; c < 128; c++) {
            Probe x = new Probe();
            if (complete.indexOf(c) >= 0) {
                x.typed(beginning + c).due("reads", statements);
            } else {
                x.fault(beginning + c, beginning.length() + (goOn.indexOf(c) >= 0 ? 1 : 0));
            }
        }
    }

    private static void newObject() {
        says("Creates an object with a program without statements, an empty text, and no errors counted.");
        new Probe().dues("told", 0, 0, 0, 0, 0, 0, 0);
        new Probe().due("statement 0 0", BAD).due("span 0 0 0", Edges.NO).due("method 0 0", BAD).due("back", Edges.NO);
        new Probe().due("clear", 0);
        new Probe().due("reads", 0);
        new Probe().due("runs 1 2", 0);
    }

    private static void typing() {
        says("Appends a byte to the text.");
        Probe p = new Probe();
        p.due("type 'c'", 1).due("type '='", 2).due("type 'a'", 3).due("type ';'", 4).due("reads", 1);
        p.due("statement 0 5", 2).signs(0, "a");
        p.due("type '#'", 5).due("reads", -10 - 5).due("type 'b'", 6).due("type ';'", 7).due("reads", 2);

        says("`c`: the byte, 0 to 127");
        Probe x = new Probe();
        for (int c = 0; c <= 127; c++) {
            x.due("type " + c, c + 1);
        }
        x.errors(0, 0, 0);
        new Probe().due("type -1", BAD).due("type 128", BAD).due("type MIN", BAD).due("type MAX", BAD)
            .due("type 353", BAD).due("type -159", BAD).errors(6, 0, 0).due("told 3", 0);

        says("Returns the length of the text; BAD if c is out of range; FULL if the text has 160 bytes.");
        Probe y = new Probe();
        for (int n = 1; n <= 160; n++) {
            y.due("type 32", n);
        }
        y.due("type 32", FULL).due("type 0", FULL).due("type 127", FULL);
        y.due("type 128", BAD).due("type -1", BAD).errors(2, 0, 3);
        y.due("told 3", 160).due("reads", 0).due("type 32", FULL);
        y.due("back", 0).due("type 32", FULL).due("clear", 160).due("type 32", 1).errors(2, 0, 5);
        new Probe().due("type 128", BAD).due("type 32", 1).due("type -1", BAD).due("type 32", 2);
    }

    private static void clearing() {
        says("Empties the text.");
        Probe x = Probe.of("#1;#2;");
        x.due("clear", 6).due("told 3", 0).due("told 4", 2).due("told 6", 1);
        x.due("type '#'", 1).due("reads", -10 - 1).due("clear", 1).due("reads", 0).due("told 4", 0);
        x.due("type '='", 1).due("reads", -10);

        says("Returns the length that it had.");
        new Probe().due("clear", 0).due("clear", 0).due("type 'a'", 1).due("clear", 1).due("clear", 0).errors(0, 0, 0);
        new Probe().typed(times(" ", 160)).due("clear", 160).due("clear", 0);
        new Probe().typed("a=").due("type 200", BAD).due("clear", 2);
    }

    private static void grammar() {
        says("There are eight variables, a to h (numbers 0 to 7); a and b are the arguments of the program.");
        for (int v = 0; v < 8; v++) {
            Probe.of((char) ('a' + v) + "=1;").due("statement 0 5", v).due("sure 0 " + v, v < 2 ? 1 : 0);
        }
        Probe.of("a=1;").due("sure 0 8", BAD).due("sure 0 -1", BAD);
        new Probe().fault("i=1;", 0).fault("`=1;", 0).fault("A=1;", 0).fault("H=1;", 0).fault("#i;", 1).fault("#`;", 1);

        says("A program is a block, that is, a sequence of statements,\nperhaps empty.");
        new Probe().due("reads", 0).due("told 4", 0).due("told 6", 1).due("runs 3 4", 0);
        Probe.of("?1{}{}*0{}").due("told 4", 2).due("statement 0 2", 0).due("statement 1 2", 0).due("runs 0 0", 0);
        Probe.of("?1{}").due("told 4", 1).due("runs 0 0", 0);
        next("", STARTS, " ", 0);
        next("a=1;", STARTS, " ", 1);
        next("?1{", STARTS + " ", "}", 1);
        next("?1{a=1;", STARTS + " ", "}", 2);

        says("statement = variable \"=\" expression \";\"                          assignment (kind 0)");
        next("a", "= ", "", 0);
        next("a=", SYMBOLS + " ", "", 0);
        next("a=1", " ", ";", 1);
        Probe.of("a=1;").due("statement 0 0", 0);

        says("| \"#\" expression \";\"                                   print (1)");
        next("#", SYMBOLS + " ", "", 0);
        next("#h", " ", ";", 1);
        Probe.of("#1;").due("statement 0 0", 1);

        says("| \"<\" expression \";\"                                   return (2)");
        next("<", SYMBOLS + " ", "", 0);
        next("<0", " ", ";", 1);
        Probe.of("<1;").due("statement 0 0", 2);

        says("| \"!\" \";\"                                              break (3), only inside a loop");
        next("*1{!", "; ", "", 0);
        next("*1{!;", STARTS + "!^ ", "}", 2);
        Probe.of("*1{!;}").due("statement 1 0", 3);
        onlyInLoops('!', 3);

        says("| \"^\" \";\"                                              continue (4), only inside a loop");
        next("*1{^", "; ", "", 0);
        next("*1{^;", STARTS + "!^ ", "}", 2);
        Probe.of("*1{^;}").due("statement 1 0", 4);
        onlyInLoops('^', 4);

        says("| \"?\" expression \"{\" block \"}\" [ \"{\" block \"}\" ]       if (5), perhaps with an else block");
        next("?", SYMBOLS + " ", "", 0);
        next("?a", "{ ", "", 0);
        next("?a{}", STARTS + "{", " ", 1);
        next("?a{}{", STARTS + " ", "}", 1);
        next("?a{}{}", STARTS, " ", 1);
        next("?a{?b{}", STARTS + "{ ", "}", 2);
        Probe.of("?1{}").due("statement 0 0", 5);

        says("| \"*\" expression \"{\" block \"}\"                         loop (6)");
        next("*", SYMBOLS + " ", "", 0);
        next("*a", "{ ", "", 0);
        next("*a{", STARTS + "!^ ", "}", 1);
        next("*a{}", STARTS, " ", 1);
        next("?1{*a{}", STARTS + " ", "}", 2);
        Probe.of("*1{}").due("statement 0 0", 6);

        says("expression = digit | variable | ( \"+\" | \"-\" | \"*\" | \"/\" | \"%\" | \"<\" | \"=\" ) expression expression");
        next("#+", SYMBOLS + " ", "", 0);
        next("#+1", SYMBOLS + " ", "", 0);
        next("#+1-", SYMBOLS + " ", "", 0);
        next("#+1a", " ", ";", 1);
        for (char c : (DIGITS + VARIABLES).toCharArray()) {
            next("a=" + c, " ", ";", 1);
        }
        for (char c : OPERATORS.toCharArray()) {
            next("?" + c + "0", SYMBOLS + " ", "", 0);
            Probe.of("#" + c + "1h;").signs(0, c + "1h");
        }
    }

    /** A break or continue: everywhere in a loop, also inside of ifs in it, and nowhere else. */
    private static void onlyInLoops(char c, int kind) {
        Probe.of("*1{?1{" + c + ";}}").due("statement 2 0", kind);
        Probe.of("*1{?1{}{" + c + ";}}").due("statement 2 0", kind);
        Probe.of("?1{*1{" + c + ";}}").due("statement 2 0", kind);
        Probe.of("*1{*1{}" + c + ";}").due("statement 2 0", kind);
        Probe.of("*1{?1{?1{}{?1{" + c + ";}}}}").due("statement 4 0", kind);
        new Probe().fault(c + ";", 0).fault("#1;" + c + ";", 3).fault("?1{" + c + ";}", 3).fault("?1{}{" + c + ";}", 5);
        new Probe().fault("*1{}" + c + ";", 4).fault("?1{*1{}" + c + ";}", 7).fault("*1{}?1{" + c + ";}", 7);
        new Probe().fault("?1{*1{}}{" + c + ";}", 9);
    }

    private static void limits() {
        says("An expression has at most 12 symbols (digits, variables and operators), a program at most 40 statements,"
            + " a text at most 160 bytes.");
        String longest = "+-*/%1b3d5f";
        Probe.of("c=" + longest + ";").signs(0, longest);
        Probe.of("#" + longest + ";").signs(0, longest);
        Probe.of("<" + longest + ";").signs(0, longest);
        Probe.of("?" + longest + "{}").signs(0, longest);
        Probe.of("*" + longest + "{}").signs(0, longest);
        Probe.of("#+1+1+1+1+11;").signs(0, "+1+1+1+1+11");
        new Probe().fault("#+1+1+1+1+1+11;", 13);
        next("#+++++111111", " ", ";", 1);
        Probe.of(times("#1;", 40)).due("told 4", 40).due("statement 39 0", 1).due("statement 40 0", BAD);
        Probe.of(times("*a{", 40) + times("}", 40)).due("told 4", 40).due("statement 0 2", 39).due("statement 39 1", 38);
        Probe.of(times("?a{", 10) + times("}{*a{#1;}}", 10) + times("#2;", 10)).due("told 4", 40).due("told 3", 160)
            .due("statement 28 1", 0).due("statement 28 4", 1).due("statement 39 3", 10);
        new Probe().fault(times("#1;", 41), 120);
        String full = times("#1;", 39) + "#" + times("+1", 5) + "1;" + times(" ", 30);
        Probe.of(full).due("told 3", 160).due("told 4", 40).due("type 32", FULL).signs(39, "+1+1+1+1+11");
        Probe.of(times(" ", 157) + "#7;").due("told 3", 160).due("told 4", 1).signs(0, "7");

        says("Blanks (32) may stand\nanywhere.");
        String text = "*1{?a{!;}{c=+1b;^;}}";
        for (int i = 0; i <= text.length(); i++) {
            Probe x = Probe.of(text.substring(0, i) + times(" ", 1 + i % 3) + text.substring(i));
            x.due("told 4", 5).signs(0, "1").signs(1, "a").signs(3, "+1b").due("statement 3 4", 1).due("statement 3 5", 2);
        }
        String apart = " " + text.replaceAll("", " ");
        Probe.of(apart).due("told 4", 5).due("told 3", apart.length());
        Probe.of(times(" ", 160)).due("told 4", 0);
        new Probe().fault("#\t1;", 1).fault("\n", 0).fault("#1;\r", 3).fault("#1\0;", 2).fault("#1;\u001f", 3).fault("#1;\u007f", 3);
    }

    private static void faults() {
        says("The fault of a text is the position, from 0, of the first byte that cannot stand there after those before it"
            + " (this is also the first byte of a 41st\nstatement and the 13th symbol of an expression),"
            + " or the length of the text if it ends too early.");
        new Probe().fault("}", 0).fault(" }", 1).fault("a=1;}", 4).fault("a=1; ;", 5).fault("a=12;", 3).fault("a = 1 2 ;", 6);
        new Probe().fault("#1;x!y", 3).fault(times(" ", 159) + "}", 159).fault(times(" ", 159) + "#", 160);
        String text = "*1{?a{!;}{c=+1b;^;}}";
        for (int n = 1; n < text.length(); n++) {
            new Probe().fault(text.substring(0, n), n).fault(text.substring(0, n) + "  ", n + 2);
        }
        new Probe().fault("?1{" + times(" ", 157), 160);

        says("(this is also the first byte of a 41st\nstatement and the 13th symbol of an expression)");
        String forty = times("#1;", 40);
        for (String start : new String[] {"h=1;", "#1;", "<1;", "!;", "^;", "?1{}", "*1{}"}) {
            new Probe().fault(forty + start, 120).fault(forty + "  " + start, 122);
            new Probe().fault("*1{" + times("!;", 39) + start + "}", 81).fault("?1{}{" + times("#1;", 39) + start + "}", 122);
        }
        next(forty, "", " ", 40);
        next(times("#1;", 39), STARTS, " ", 39);
        next("*1{" + times("!;", 38), STARTS + "!^ ", "}", 39);
        next("*1{" + times("!;", 39), " ", "}", 40);
        next("*1{" + times("!;", 39) + "}", "", " ", 40);
        next(times("#1;", 39) + "?1{}", "{", " ", 40);
        next(times("#1;", 39) + "?1{}{", " ", "}", 40);
        next(times("#1;", 39) + "?1", "{ ", "", 40);
        String twelve = "++++++1a2b3c";
        for (String head : new String[] {"c=", "#", "<", "?", "*", "#+++++111111;#"}) {
            next(head + twelve, " ", "", 0);
            new Probe().fault(head + twelve + " 4", head.length() + 13).fault(head + twelve + "  ", head.length() + 14);
            new Probe().fault(head + times("+", 12) + "1", head.length() + 12);
            new Probe().fault(head + times("/", 13), head.length() + 12);
        }
        next("#" + times("-", 12), " ", "", 0);
        next("#" + times("-", 11), SYMBOLS + " ", "", 0);

        says("A \"{\" behind the first block of an if always begins its else\nblock.");
        Probe.of("?1{}{#1;}").dues("statement 1", 1, 0, 0, 0, 1, NONE, NONE);
        Probe.of("?1{} {#1;}").dues("statement 1", 1, 0, 0, 0, 1, NONE, NONE);
        Probe.of("?1{?2{}{#1;}}").dues("statement 2", 1, 1, 0, 0, 1, NONE, NONE);
        Probe.of("?1{?2{}}{#1;}").dues("statement 2", 1, 0, 0, 0, 1, NONE, NONE);
        Probe.of("?1{}{?2{}{#1;}}").dues("statement 1", 5, 0, 1, 0, 1, NONE, NONE).dues("statement 2", 1, 1, 0, 0, 1, NONE, NONE);
        new Probe().fault("?1{}{}{}", 6).fault("*1{}{}", 4).fault("{}", 0).fault("#1;{}", 3).fault("?1{#1;}#1;{}", 10);

        says("Statements are numbered from 0 in the order of the text: a statement before those inside it,"
            + " the first block of an if before its else block.");
        Probe x = Probe.of("?1{#1;*1{!;}}{c=1;}<3;");
        int[] kinds = {5, 1, 6, 3, 0, 2};
        for (int k = 0; k < kinds.length; k++) {
            x.due("statement " + k + " 0", kinds[k]);
        }
        x.due("statement 6 0", BAD).due("statement -1 0", BAD);

        says("Calls (kind 7) are\nstatements, too.");
        Probe y = Probe.of("#1;?a{#2;#3;}#4;").due("lifts 2 3 0", 1).due("told 4", 4);
        y.dues("statement 2", 7, 1, 0, 0, 0, NONE, 0).due("statement 1 2", 1).due("statement 3 0", 1).due("statement 4 0", BAD);
        y.due("span 2 2 3", 1).due("sure 2 0", 1);

        says("There are at most 3 methods, numbered from 0; a program that has been read has none.");
        Probe z = Probe.of("#1;#2;#3;#4;").due("told 5", 0).due("method 0 0", BAD);
        for (int m = 0; m < 3; m++) {
            z.due("method " + m + " 0", BAD).due("lifts " + m + " " + m + " 0", 1).due("method " + m + " 0", 1);
        }
        z.due("lifts 3 3 0", FULL).due("told 5", 3).due("method 3 0", BAD).due("reads", 4).due("told 5", 0).due("method 0 0", BAD);
        for (int n = 1; n <= 8; n++) {
            z.due("lifts 0 0 0", 1).due("lifts 1 1 0", 1).due("told 5", 2).due("reads", 4).due("told 5", 0);
        }
    }

    private static void reading() {
        says("Takes the program from the text, which stays.");
        Probe x = new Probe().typed("#1;#2;").due("told 4", 0).due("reads", 2).due("told 4", 2).due("told 3", 6);
        x.due("reads", 2).due("type '#'", 7).due("told 4", 2).due("reads", -10 - 7).due("told 3", 7).due("clear", 7);

        Probe again = new Probe().typed(times("#+a+b+cd;", 17));
        for (int n = 1; n <= 20; n++) {
            again.due("reads", 17);
        }
        again.signs(0, "+a+b+cd").signs(16, "+a+b+cd").due("told 3", 153);
        Probe other = new Probe();
        for (int n = 1; n <= 10; n++) {
            other.takes("?a{*b{#1;}}{#2;}", 4).due("statement 0 2", 3).due("statement 1 2", 1).due("statement 3 3", 0).signs(3, "2");
            other.takes("#1;c=2;#3;", 3).due("statement 0 2", 0).due("statement 1 2", 0).due("statement 2 3", 2).signs(1, "2");
        }

        says("There are no methods then.");
        Probe.of("#1;#2;").due("lifts 0 0 0", 1).due("lifts 1 1 0", 1).due("told 5", 2).due("reads", 2).due("told 5", 0)
            .due("method 0 0", BAD).due("settles 0", BAD).due("statement 0 6", NONE).due("back", 3).due("told 5", 2);

        says("Returns the number of statements; -10 minus the fault if the text has a fault (nothing is changed or counted then).");
        new Probe().due("reads", 0).typed("#1;").due("reads", 1).typed(times("#1;", 40)).due("reads", 40);
        Probe y = Probe.of("#1;#2;").due("lifts 1 1 0", 1);
        y.fault("}", 0).fault("#1;#1;#1;}", 9).fault(times("#", 160), 1).fault("?1{" + times(" ", 157), 160);
        y.due("clear", 160).errors(0, 0, 0).dues("told", 0, 0, 0, 0, 2, 1, 2);
        y.signs(0, "1").signs(1, ">").due("method 0 3", 1).due("back", 1).due("told 5", 0).signs(1, "2").due("back", 0).due("back", Edges.NO);
        Probe z = new Probe();
        for (int n = 1; n <= 7; n++) {
            z.takes(times("#1;", n), n);
        }
        z.fault("#1;#1;!", 6).due("told 6", 6).due("told 4", 7);
        for (int n = 5; n >= 0; n--) {
            z.due("back", n).due("told 4", n + 1);
        }
        z.due("back", Edges.NO);
    }

    private static void statements() {
        says("`what`: 0: its kind, 0 to 7;");
        Probe x = Probe.of("a=1;#1;<1;*1{!;^;?1{}}#2;").due("lifts 7 7 0", 1);
        int[] kinds = {0, 1, 2, 6, 3, 4, 5, 7};
        for (int k = 0; k < kinds.length; k++) {
            x.due("statement " + k + " 0", kinds[k]);
        }

        says("1: the statement whose block it is in, NONE for the block of the program;");
        x.due("statement 0 1", NONE).due("statement 3 1", NONE).due("statement 4 1", 3).due("statement 6 1", 3).due("statement 7 1", NONE);
        Probe.of("*1{?1{#1;}{#2;}}").due("statement 1 1", 0).due("statement 2 1", 1).due("statement 3 1", 1);

        says("2: the number of statements inside it, at any depth;");
        x.due("statement 0 2", 0).due("statement 3 2", 3).due("statement 6 2", 0).due("statement 7 2", 0);
        Probe.of("*1{?1{#1;}{#2;*1{}}}#3;").due("statement 0 2", 4).due("statement 1 2", 3).due("statement 3 2", 0)
            .due("statement 4 2", 0).due("statement 5 2", 0);
        Probe.of("?1{" + times("#1;", 20) + "}{" + times("#2;", 19) + "}").due("statement 0 2", 39);

        says("3: its position in its block, from 0;");
        x.due("statement 0 3", 0).due("statement 1 3", 1).due("statement 3 3", 3).due("statement 4 3", 0).due("statement 6 3", 2)
            .due("statement 7 3", 4);
        Probe.of("?1{#1;?1{#2;}#3;}{#4;#5;}#6;").due("statement 1 3", 0).due("statement 2 3", 1).due("statement 3 3", 0)
            .due("statement 4 3", 2).due("statement 5 3", 0).due("statement 6 3", 1).due("statement 7 3", 1);
        Probe.of(times("#1;", 40)).due("statement 39 3", 39);

        says("4: 1 if it is in the else block of an if (directly), else 0;");
        Probe y = Probe.of("?1{#1;}{*1{#2;}#3;?1{#4;}{#5;}}#6;");
        int[] inElse = {0, 0, 1, 0, 1, 1, 0, 1, 0};
        for (int k = 0; k < inElse.length; k++) {
            y.due("statement " + k + " 4", inElse[k]);
        }

        says("5: the variable of an assignment, else NONE;");
        Probe.of("a=1;h=1;").due("statement 0 5", 0).due("statement 1 5", 7);
        for (int k = 1; k < 8; k++) {
            x.due("statement " + k + " 5", NONE);
        }

        says("6: the method of a call, else NONE");
        for (int k = 0; k < 7; k++) {
            x.due("statement " + k + " 6", NONE);
        }
        x.due("statement 7 6", 0).due("lifts 1 1 0", 1).due("lifts 0 0 0", 1).due("statement 0 6", 2).due("statement 1 6", 1)
            .due("statement 7 6", 0).errors(0, 0, 0);

        says("Returns the property; BAD if there is no such statement, or what is out of range.");
        Probe z = Probe.of("#1;#2;");
        z.due("statement 1 6", NONE).due("statement 2 0", BAD).due("statement -1 0", BAD).due("statement MAX 0", BAD);
        z.due("statement MIN 0", BAD).due("statement 0 -1", BAD).due("statement 0 7", BAD).due("statement 0 MAX", BAD);
        z.due("statement 0 MIN", BAD).due("statement 2 7", BAD).due("statement -1 1", BAD).errors(10, 0, 0);
        z.takes("#1;", 1).due("statement 1 0", BAD).due("back", 1).due("statement 1 0", 1);
        z.takes("", 0).due("statement 0 0", BAD).due("statement -1 1", BAD).errors(13, 0, 0);
    }

    private static void signs() {
        says("Returns a symbol of the expression of a statement.");
        Probe.of("c=7;#+1h;<c;*=ab{!;^;?0{}}").signs(0, "7").signs(1, "+1h").signs(2, "c").signs(3, "=ab").signs(6, "0");

        says("For a call these are the letters of its inputs, then > (62), then the letters of its outputs.");
        Probe.of("#1;").due("lifts 0 0 0", 1).due("sign 0 0", 62).signs(0, ">");
        Probe.of("#b;").due("lifts 0 0 0", 1).signs(0, "b>");
        Probe.of("h=1;#h;").due("lifts 0 0 0", 1).signs(0, ">h");
        Probe.of("?b{a=1;}#a;").due("lifts 0 0 0", 1).signs(0, "ba>a");
        Probe.of("c=b;d=a;e=+c*dc;f=+ed;g=+fc;h=g;#+e+f+gh;").due("lifts 2 4 0", 1).signs(2, "cd>efg");
        Probe.of("c=b;d=a;f=+d*c-ba;e=f;g=e;#+e+fg;").due("lifts 2 4 0", 1).signs(2, "dcba>feg");

        says("`i`: the position of the symbol, 0 or greater");
        Probe x = Probe.of("#+ab;*1{!;^;}");
        x.due("sign 0 0", '+').due("sign 0 2", 'b').due("sign 0 -1", BAD).due("sign 0 MIN", BAD).errors(2, 0, 0);

        says("Returns the byte of the symbol; NONE if there are not so many; BAD if there is no such statement, or i is negative.");
        x.due("sign 0 3", NONE).due("sign 0 MAX", NONE).due("sign 1 1", NONE).due("sign 2 0", NONE).due("sign 3 0", NONE);
        x.errors(2, 0, 0);
        x.due("sign 4 0", BAD).due("sign -1 0", BAD).due("sign MAX 0", BAD).due("sign MIN 0", BAD).due("sign 4 MAX", BAD);
        x.due("sign 2 -1", BAD).due("sign 4 -1", BAD).errors(9, 0, 0);
        new Probe().due("sign 0 0", BAD);
        Probe.of("#+++++111111;").due("sign 0 10", '1').due("sign 0 11", NONE).due("sign 0 12", NONE);
    }

    public static void main(String[] args) {
        newObject();
        typing();
        clearing();
        grammar();
        limits();
        faults();
        reading();
        statements();
        signs();
        Edges.finish();
    }
}
